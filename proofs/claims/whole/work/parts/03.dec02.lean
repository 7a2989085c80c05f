theorem dX4_closeTree_64 : decode cX4_closeTree 64 = .ok (.putfield 59, 3) := by decide +kernel
theorem dX4_closeTree_67 : decode cX4_closeTree 67 = .ok (.aload_n 0, 1) := by decide +kernel
theorem dX4_closeTree_68 : decode cX4_closeTree 68 = .ok (.getfield 46, 3) := by decide +kernel
theorem dX4_closeTree_71 : decode cX4_closeTree 71 = .ok (.aload_n 0, 1) := by decide +kernel
theorem dX4_closeTree_72 : decode cX4_closeTree 72 = .ok (.getfield 21, 3) := by decide +kernel
theorem dX4_closeTree_75 : decode cX4_closeTree 75 = .ok (.iload_n 2, 1) := by decide +kernel
theorem dX4_closeTree_76 : decode cX4_closeTree 76 = .ok (.iaload, 1) := by decide +kernel
theorem dX4_closeTree_77 : decode cX4_closeTree 77 = .ok (.dup2, 1) := by decide +kernel
theorem dX4_closeTree_78 : decode cX4_closeTree 78 = .ok (.iaload, 1) := by decide +kernel
theorem dX4_closeTree_79 : decode cX4_closeTree 79 = .ok (.iconst 1, 1) := by decide +kernel
theorem dX4_closeTree_80 : decode cX4_closeTree 80 = .ok (.iload_n 1, 1) := by decide +kernel
theorem dX4_closeTree_81 : decode cX4_closeTree 81 = .ok (.ishl, 1) := by decide +kernel
theorem dX4_closeTree_82 : decode cX4_closeTree 82 = .ok (.ior, 1) := by decide +kernel
theorem dX4_closeTree_83 : decode cX4_closeTree 83 = .ok (.iastore, 1) := by decide +kernel
theorem dX4_closeTree_84 : decode cX4_closeTree 84 = .ok (.return_, 1) := by decide +kernel
theorem dX4_putInOrder_0 : decode cX4_putInOrder 0 = .ok (.iconst 0, 1) := by decide +kernel
theorem dX4_putInOrder_1 : decode cX4_putInOrder 1 = .ok (.istore_n 1, 1) := by decide +kernel
theorem dX4_putInOrder_2 : decode cX4_putInOrder 2 = .ok (.iconst 0, 1) := by decide +kernel
theorem dX4_putInOrder_3 : decode cX4_putInOrder 3 = .ok (.istore_n 2, 1) := by decide +kernel
theorem dX4_putInOrder_4 : decode cX4_putInOrder 4 = .ok (.iload_n 2, 1) := by decide +kernel
theorem dX4_putInOrder_5 : decode cX4_putInOrder 5 = .ok (.iconst 3, 1) := by decide +kernel
theorem dX4_putInOrder_6 : decode cX4_putInOrder 6 = .ok (.if_icmp .ge 45, 3) := by decide +kernel
theorem dX4_putInOrder_9 : decode cX4_putInOrder 9 = .ok (.aload_n 0, 1) := by decide +kernel
theorem dX4_putInOrder_10 : decode cX4_putInOrder 10 = .ok (.getfield 56, 3) := by decide +kernel
theorem dX4_putInOrder_13 : decode cX4_putInOrder 13 = .ok (.iconst 1, 1) := by decide +kernel
theorem dX4_putInOrder_14 : decode cX4_putInOrder 14 = .ok (.isub, 1) := by decide +kernel
theorem dX4_putInOrder_15 : decode cX4_putInOrder 15 = .ok (.istore_n 3, 1) := by decide +kernel
theorem dX4_putInOrder_16 : decode cX4_putInOrder 16 = .ok (.iload_n 3, 1) := by decide +kernel
theorem dX4_putInOrder_17 : decode cX4_putInOrder 17 = .ok (.ifCond .lt 28, 3) := by decide +kernel
theorem dX4_putInOrder_20 : decode cX4_putInOrder 20 = .ok (.aload_n 0, 1) := by decide +kernel
theorem dX4_putInOrder_21 : decode cX4_putInOrder 21 = .ok (.iload_n 3, 1) := by decide +kernel
theorem dX4_putInOrder_22 : decode cX4_putInOrder 22 = .ok (.invokevirtual 89, 3) := by decide +kernel
theorem dX4_putInOrder_25 : decode cX4_putInOrder 25 = .ok (.iload_n 2, 1) := by decide +kernel
theorem dX4_putInOrder_26 : decode cX4_putInOrder 26 = .ok (.if_icmp .ne 13, 3) := by decide +kernel
theorem dX4_putInOrder_29 : decode cX4_putInOrder 29 = .ok (.aload_n 0, 1) := by decide +kernel
theorem dX4_putInOrder_30 : decode cX4_putInOrder 30 = .ok (.getfield 43, 3) := by decide +kernel
theorem dX4_putInOrder_33 : decode cX4_putInOrder 33 = .ok (.iload_n 1, 1) := by decide +kernel
theorem dX4_putInOrder_34 : decode cX4_putInOrder 34 = .ok (.iload_n 3, 1) := by decide +kernel
theorem dX4_putInOrder_35 : decode cX4_putInOrder 35 = .ok (.iastore, 1) := by decide +kernel
theorem dX4_putInOrder_36 : decode cX4_putInOrder 36 = .ok (.iinc 1 1, 3) := by decide +kernel
theorem dX4_putInOrder_39 : decode cX4_putInOrder 39 = .ok (.iinc 3 (-1), 3) := by decide +kernel
theorem dX4_putInOrder_42 : decode cX4_putInOrder 42 = .ok (.goto (-26), 3) := by decide +kernel
theorem dX4_putInOrder_45 : decode cX4_putInOrder 45 = .ok (.iinc 2 1, 3) := by decide +kernel
theorem dX4_putInOrder_48 : decode cX4_putInOrder 48 = .ok (.goto (-44), 3) := by decide +kernel
theorem dX4_putInOrder_51 : decode cX4_putInOrder 51 = .ok (.return_, 1) := by decide +kernel
theorem dX4_turnOf_0 : decode cX4_turnOf 0 = .ok (.aload_n 0, 1) := by decide +kernel
theorem dX4_turnOf_1 : decode cX4_turnOf 1 = .ok (.getfield 36, 3) := by decide +kernel
theorem dX4_turnOf_4 : decode cX4_turnOf 4 = .ok (.aload_n 0, 1) := by decide +kernel
theorem dX4_turnOf_5 : decode cX4_turnOf 5 = .ok (.getfield 9, 3) := by decide +kernel
theorem dX4_turnOf_8 : decode cX4_turnOf 8 = .ok (.aload_n 0, 1) := by decide +kernel
theorem dX4_turnOf_9 : decode cX4_turnOf 9 = .ok (.getfield 15, 3) := by decide +kernel
theorem dX4_turnOf_12 : decode cX4_turnOf 12 = .ok (.iload_n 1, 1) := by decide +kernel
theorem dX4_turnOf_13 : decode cX4_turnOf 13 = .ok (.iaload, 1) := by decide +kernel
theorem dX4_turnOf_14 : decode cX4_turnOf 14 = .ok (.iaload, 1) := by decide +kernel
theorem dX4_turnOf_15 : decode cX4_turnOf 15 = .ok (.iaload, 1) := by decide +kernel
theorem dX4_turnOf_16 : decode cX4_turnOf 16 = .ok (.istore_n 2, 1) := by decide +kernel
theorem dX4_turnOf_17 : decode cX4_turnOf 17 = .ok (.iload_n 2, 1) := by decide +kernel
theorem dX4_turnOf_18 : decode cX4_turnOf 18 = .ok (.ifCond .ne 5, 3) := by decide +kernel
theorem dX4_turnOf_21 : decode cX4_turnOf 21 = .ok (.iconst 1, 1) := by decide +kernel
theorem dX4_turnOf_22 : decode cX4_turnOf 22 = .ok (.ireturn, 1) := by decide +kernel
theorem dX4_turnOf_23 : decode cX4_turnOf 23 = .ok (.aload_n 0, 1) := by decide +kernel
theorem dX4_turnOf_24 : decode cX4_turnOf 24 = .ok (.getfield 36, 3) := by decide +kernel
theorem dX4_turnOf_27 : decode cX4_turnOf 27 = .ok (.iload_n 1, 1) := by decide +kernel
theorem dX4_turnOf_28 : decode cX4_turnOf 28 = .ok (.iaload, 1) := by decide +kernel
theorem dX4_turnOf_29 : decode cX4_turnOf 29 = .ok (.iload_n 2, 1) := by decide +kernel
theorem dX4_turnOf_30 : decode cX4_turnOf 30 = .ok (.if_icmp .ne 7, 3) := by decide +kernel
theorem dX4_turnOf_33 : decode cX4_turnOf 33 = .ok (.iconst 0, 1) := by decide +kernel
theorem dX4_turnOf_34 : decode cX4_turnOf 34 = .ok (.goto 4, 3) := by decide +kernel
theorem dX4_turnOf_37 : decode cX4_turnOf 37 = .ok (.iconst 2, 1) := by decide +kernel
theorem dX4_turnOf_38 : decode cX4_turnOf 38 = .ok (.ireturn, 1) := by decide +kernel
theorem dX5_init_0 : decode cX5_init 0 = .ok (.aload_n 0, 1) := by decide +kernel
theorem dX5_init_1 : decode cX5_init 1 = .ok (.invokespecial 3, 3) := by decide +kernel
theorem dX5_init_4 : decode cX5_init 4 = .ok (.aload_n 0, 1) := by decide +kernel
theorem dX5_init_5 : decode cX5_init 5 = .ok (.iconst 0, 1) := by decide +kernel
theorem dX5_init_6 : decode cX5_init 6 = .ok (.putfield 9, 3) := by decide +kernel
theorem dX5_init_9 : decode cX5_init 9 = .ok (.aload_n 0, 1) := by decide +kernel
theorem dX5_init_10 : decode cX5_init 10 = .ok (.iconst (-1), 1) := by decide +kernel
theorem dX5_init_11 : decode cX5_init 11 = .ok (.putfield 15, 3) := by decide +kernel
theorem dX5_init_14 : decode cX5_init 14 = .ok (.aload_n 0, 1) := by decide +kernel
theorem dX5_init_15 : decode cX5_init 15 = .ok (.new 18, 3) := by decide +kernel
theorem dX5_init_18 : decode cX5_init 18 = .ok (.dup, 1) := by decide +kernel
theorem dX5_init_19 : decode cX5_init 19 = .ok (.iconst 0, 1) := by decide +kernel
theorem dX5_init_20 : decode cX5_init 20 = .ok (.invokespecial 20, 3) := by decide +kernel
theorem dX5_init_23 : decode cX5_init 23 = .ok (.putfield 23, 3) := by decide +kernel
theorem dX5_init_26 : decode cX5_init 26 = .ok (.return_, 1) := by decide +kernel
theorem dX5_readText_0 : decode cX5_readText 0 = .ok (.aload_n 0, 1) := by decide +kernel
theorem dX5_readText_1 : decode cX5_readText 1 = .ok (.aload_n 1, 1) := by decide +kernel
theorem dX5_readText_2 : decode cX5_readText 2 = .ok (.putfield 23, 3) := by decide +kernel
theorem dX5_readText_5 : decode cX5_readText 5 = .ok (.aload_n 0, 1) := by decide +kernel
theorem dX5_readText_6 : decode cX5_readText 6 = .ok (.aload_n 2, 1) := by decide +kernel
theorem dX5_readText_7 : decode cX5_readText 7 = .ok (.putfield 27, 3) := by decide +kernel
theorem dX5_readText_10 : decode cX5_readText 10 = .ok (.aload_n 0, 1) := by decide +kernel
theorem dX5_readText_11 : decode cX5_readText 11 = .ok (.getfield 27, 3) := by decide +kernel
theorem dX5_readText_14 : decode cX5_readText 14 = .ok (.invokevirtual 31, 3) := by decide +kernel
theorem dX5_readText_17 : decode cX5_readText 17 = .ok (.aload_n 0, 1) := by decide +kernel
theorem dX5_readText_18 : decode cX5_readText 18 = .ok (.iconst 0, 1) := by decide +kernel
theorem dX5_readText_19 : decode cX5_readText 19 = .ok (.putfield 9, 3) := by decide +kernel
theorem dX5_readText_22 : decode cX5_readText 22 = .ok (.aload_n 0, 1) := by decide +kernel
theorem dX5_readText_23 : decode cX5_readText 23 = .ok (.iconst (-1), 1) := by decide +kernel
theorem dX5_readText_24 : decode cX5_readText 24 = .ok (.putfield 15, 3) := by decide +kernel
theorem dX5_readText_27 : decode cX5_readText 27 = .ok (.aload_n 0, 1) := by decide +kernel
theorem dX5_readText_28 : decode cX5_readText 28 = .ok (.aload_n 0, 1) := by decide +kernel
theorem dX5_readText_29 : decode cX5_readText 29 = .ok (.getfield 23, 3) := by decide +kernel
theorem dX5_readText_32 : decode cX5_readText 32 = .ok (.iconst 0, 1) := by decide +kernel
theorem dX5_readText_33 : decode cX5_readText 33 = .ok (.invokevirtual 36, 3) := by decide +kernel
theorem dX5_readText_36 : decode cX5_readText 36 = .ok (.putfield 40, 3) := by decide +kernel
theorem dX5_readText_39 : decode cX5_readText 39 = .ok (.iconst 0, 1) := by decide +kernel
theorem dX5_readText_40 : decode cX5_readText 40 = .ok (.istore_n 3, 1) := by decide +kernel
theorem dX5_readText_41 : decode cX5_readText 41 = .ok (.iload_n 3, 1) := by decide +kernel
theorem dX5_readText_42 : decode cX5_readText 42 = .ok (.bipush 8, 2) := by decide +kernel
theorem dX5_readText_44 : decode cX5_readText 44 = .ok (.if_icmp .gt 34, 3) := by decide +kernel
theorem dX5_readText_47 : decode cX5_readText 47 = .ok (.aload_n 0, 1) := by decide +kernel
theorem dX5_readText_48 : decode cX5_readText 48 = .ok (.getfield 40, 3) := by decide +kernel
theorem dX5_readText_51 : decode cX5_readText 51 = .ok (.aload_n 0, 1) := by decide +kernel
theorem dX5_readText_52 : decode cX5_readText 52 = .ok (.getfield 23, 3) := by decide +kernel
theorem dX5_readText_55 : decode cX5_readText 55 = .ok (.getfield 43, 3) := by decide +kernel
theorem dX5_readText_58 : decode cX5_readText 58 = .ok (.if_icmp .ge 20, 3) := by decide +kernel
theorem dX5_readText_61 : decode cX5_readText 61 = .ok (.aload_n 0, 1) := by decide +kernel
theorem dX5_readText_62 : decode cX5_readText 62 = .ok (.getfield 9, 3) := by decide +kernel
theorem dX5_readText_65 : decode cX5_readText 65 = .ok (.ifCond .ne 13, 3) := by decide +kernel
theorem dX5_readText_68 : decode cX5_readText 68 = .ok (.aload_n 0, 1) := by decide +kernel
theorem dX5_readText_69 : decode cX5_readText 69 = .ok (.invokevirtual 46, 3) := by decide +kernel
theorem dX5_readText_72 : decode cX5_readText 72 = .ok (.iinc 3 1, 3) := by decide +kernel
theorem dX5_readText_75 : decode cX5_readText 75 = .ok (.goto (-34), 3) := by decide +kernel
theorem dX5_readText_78 : decode cX5_readText 78 = .ok (.aload_n 0, 1) := by decide +kernel
theorem dX5_readText_79 : decode cX5_readText 79 = .ok (.getfield 27, 3) := by decide +kernel
theorem dX5_readText_82 : decode cX5_readText 82 = .ok (.invokevirtual 49, 3) := by decide +kernel
theorem dX5_readText_85 : decode cX5_readText 85 = .ok (.aload_n 0, 1) := by decide +kernel
theorem dX5_readText_86 : decode cX5_readText 86 = .ok (.getfield 9, 3) := by decide +kernel
theorem dX5_readText_89 : decode cX5_readText 89 = .ok (.ifCond .ne 7, 3) := by decide +kernel
theorem dX5_readText_92 : decode cX5_readText 92 = .ok (.iconst 1, 1) := by decide +kernel
theorem dX5_readText_93 : decode cX5_readText 93 = .ok (.goto 4, 3) := by decide +kernel
theorem dX5_readText_96 : decode cX5_readText 96 = .ok (.iconst 0, 1) := by decide +kernel
theorem dX5_readText_97 : decode cX5_readText 97 = .ok (.ireturn, 1) := by decide +kernel
theorem dX5_refuse_0 : decode cX5_refuse 0 = .ok (.aload_n 0, 1) := by decide +kernel
theorem dX5_refuse_1 : decode cX5_refuse 1 = .ok (.iload_n 1, 1) := by decide +kernel
theorem dX5_refuse_2 : decode cX5_refuse 2 = .ok (.putfield 9, 3) := by decide +kernel
theorem dX5_refuse_5 : decode cX5_refuse 5 = .ok (.aload_n 0, 1) := by decide +kernel
theorem dX5_refuse_6 : decode cX5_refuse 6 = .ok (.aload_n 0, 1) := by decide +kernel
theorem dX5_refuse_7 : decode cX5_refuse 7 = .ok (.getfield 40, 3) := by decide +kernel
theorem dX5_refuse_10 : decode cX5_refuse 10 = .ok (.putfield 15, 3) := by decide +kernel
theorem dX5_refuse_13 : decode cX5_refuse 13 = .ok (.return_, 1) := by decide +kernel
theorem dX5_sign_0 : decode cX5_sign 0 = .ok (.aload_n 0, 1) := by decide +kernel
theorem dX5_sign_1 : decode cX5_sign 1 = .ok (.getfield 23, 3) := by decide +kernel
theorem dX5_sign_4 : decode cX5_sign 4 = .ok (.aload_n 0, 1) := by decide +kernel
theorem dX5_sign_5 : decode cX5_sign 5 = .ok (.getfield 40, 3) := by decide +kernel
theorem dX5_sign_8 : decode cX5_sign 8 = .ok (.invokevirtual 52, 3) := by decide +kernel
theorem dX5_sign_11 : decode cX5_sign 11 = .ok (.ireturn, 1) := by decide +kernel
theorem dX5_goOn_0 : decode cX5_goOn 0 = .ok (.aload_n 0, 1) := by decide +kernel
theorem dX5_goOn_1 : decode cX5_goOn 1 = .ok (.aload_n 0, 1) := by decide +kernel
theorem dX5_goOn_2 : decode cX5_goOn 2 = .ok (.getfield 23, 3) := by decide +kernel
theorem dX5_goOn_5 : decode cX5_goOn 5 = .ok (.aload_n 0, 1) := by decide +kernel
theorem dX5_goOn_6 : decode cX5_goOn 6 = .ok (.getfield 40, 3) := by decide +kernel
theorem dX5_goOn_9 : decode cX5_goOn 9 = .ok (.iload_n 1, 1) := by decide +kernel
theorem dX5_goOn_10 : decode cX5_goOn 10 = .ok (.iadd, 1) := by decide +kernel
theorem dX5_goOn_11 : decode cX5_goOn 11 = .ok (.invokevirtual 36, 3) := by decide +kernel
theorem dX5_goOn_14 : decode cX5_goOn 14 = .ok (.putfield 40, 3) := by decide +kernel
theorem dX5_goOn_17 : decode cX5_goOn 17 = .ok (.return_, 1) := by decide +kernel
theorem dX5_isLabel_0 : decode cX5_isLabel 0 = .ok (.iload_n 0, 1) := by decide +kernel
theorem dX5_isLabel_1 : decode cX5_isLabel 1 = .ok (.bipush 65, 2) := by decide +kernel
theorem dX5_isLabel_3 : decode cX5_isLabel 3 = .ok (.if_icmp .lt 13, 3) := by decide +kernel
theorem dX5_isLabel_6 : decode cX5_isLabel 6 = .ok (.iload_n 0, 1) := by decide +kernel
theorem dX5_isLabel_7 : decode cX5_isLabel 7 = .ok (.bipush 90, 2) := by decide +kernel
theorem dX5_isLabel_9 : decode cX5_isLabel 9 = .ok (.if_icmp .gt 7, 3) := by decide +kernel
theorem dX5_isLabel_12 : decode cX5_isLabel 12 = .ok (.iconst 1, 1) := by decide +kernel
theorem dX5_isLabel_13 : decode cX5_isLabel 13 = .ok (.goto 4, 3) := by decide +kernel
theorem dX5_isLabel_16 : decode cX5_isLabel 16 = .ok (.iconst 0, 1) := by decide +kernel
theorem dX5_isLabel_17 : decode cX5_isLabel 17 = .ok (.ireturn, 1) := by decide +kernel
theorem dX5_isWord_0 : decode cX5_isWord 0 = .ok (.aload_n 0, 1) := by decide +kernel
theorem dX5_isWord_1 : decode cX5_isWord 1 = .ok (.getfield 23, 3) := by decide +kernel
theorem dX5_isWord_4 : decode cX5_isWord 4 = .ok (.aload_n 0, 1) := by decide +kernel
theorem dX5_isWord_5 : decode cX5_isWord 5 = .ok (.getfield 40, 3) := by decide +kernel
theorem dX5_isWord_8 : decode cX5_isWord 8 = .ok (.invokevirtual 52, 3) := by decide +kernel
theorem dX5_isWord_11 : decode cX5_isWord 11 = .ok (.bipush 116, 2) := by decide +kernel
theorem dX5_isWord_13 : decode cX5_isWord 13 = .ok (.if_icmp .ne 61, 3) := by decide +kernel
theorem dX5_isWord_16 : decode cX5_isWord 16 = .ok (.aload_n 0, 1) := by decide +kernel
theorem dX5_isWord_17 : decode cX5_isWord 17 = .ok (.getfield 23, 3) := by decide +kernel
theorem dX5_isWord_20 : decode cX5_isWord 20 = .ok (.aload_n 0, 1) := by decide +kernel
theorem dX5_isWord_21 : decode cX5_isWord 21 = .ok (.getfield 40, 3) := by decide +kernel
theorem dX5_isWord_24 : decode cX5_isWord 24 = .ok (.iconst 1, 1) := by decide +kernel
theorem dX5_isWord_25 : decode cX5_isWord 25 = .ok (.iadd, 1) := by decide +kernel
theorem dX5_isWord_26 : decode cX5_isWord 26 = .ok (.invokevirtual 52, 3) := by decide +kernel
theorem dX5_isWord_29 : decode cX5_isWord 29 = .ok (.bipush 114, 2) := by decide +kernel
theorem dX5_isWord_31 : decode cX5_isWord 31 = .ok (.if_icmp .ne 43, 3) := by decide +kernel
theorem dX5_isWord_34 : decode cX5_isWord 34 = .ok (.aload_n 0, 1) := by decide +kernel
theorem dX5_isWord_35 : decode cX5_isWord 35 = .ok (.getfield 23, 3) := by decide +kernel
theorem dX5_isWord_38 : decode cX5_isWord 38 = .ok (.aload_n 0, 1) := by decide +kernel
theorem dX5_isWord_39 : decode cX5_isWord 39 = .ok (.getfield 40, 3) := by decide +kernel
theorem dX5_isWord_42 : decode cX5_isWord 42 = .ok (.iconst 2, 1) := by decide +kernel
theorem dX5_isWord_43 : decode cX5_isWord 43 = .ok (.iadd, 1) := by decide +kernel
theorem dX5_isWord_44 : decode cX5_isWord 44 = .ok (.invokevirtual 52, 3) := by decide +kernel
theorem dX5_isWord_47 : decode cX5_isWord 47 = .ok (.bipush 101, 2) := by decide +kernel
theorem dX5_isWord_49 : decode cX5_isWord 49 = .ok (.if_icmp .ne 25, 3) := by decide +kernel
theorem dX5_isWord_52 : decode cX5_isWord 52 = .ok (.aload_n 0, 1) := by decide +kernel
theorem dX5_isWord_53 : decode cX5_isWord 53 = .ok (.getfield 23, 3) := by decide +kernel
theorem dX5_isWord_56 : decode cX5_isWord 56 = .ok (.aload_n 0, 1) := by decide +kernel
theorem dX5_isWord_57 : decode cX5_isWord 57 = .ok (.getfield 40, 3) := by decide +kernel
theorem dX5_isWord_60 : decode cX5_isWord 60 = .ok (.iconst 3, 1) := by decide +kernel
theorem dX5_isWord_61 : decode cX5_isWord 61 = .ok (.iadd, 1) := by decide +kernel
theorem dX5_isWord_62 : decode cX5_isWord 62 = .ok (.invokevirtual 52, 3) := by decide +kernel
theorem dX5_isWord_65 : decode cX5_isWord 65 = .ok (.bipush 101, 2) := by decide +kernel
theorem dX5_isWord_67 : decode cX5_isWord 67 = .ok (.if_icmp .ne 7, 3) := by decide +kernel
theorem dX5_isWord_70 : decode cX5_isWord 70 = .ok (.iconst 1, 1) := by decide +kernel
theorem dX5_isWord_71 : decode cX5_isWord 71 = .ok (.goto 4, 3) := by decide +kernel
theorem dX5_isWord_74 : decode cX5_isWord 74 = .ok (.iconst 0, 1) := by decide +kernel
theorem dX5_isWord_75 : decode cX5_isWord 75 = .ok (.ireturn, 1) := by decide +kernel
theorem dX5_readLine_0 : decode cX5_readLine 0 = .ok (.aload_n 0, 1) := by decide +kernel
theorem dX5_readLine_1 : decode cX5_readLine 1 = .ok (.invokevirtual 55, 3) := by decide +kernel
theorem dX5_readLine_4 : decode cX5_readLine 4 = .ok (.ifCond .ne 9, 3) := by decide +kernel
theorem dX5_readLine_7 : decode cX5_readLine 7 = .ok (.aload_n 0, 1) := by decide +kernel
theorem dX5_readLine_8 : decode cX5_readLine 8 = .ok (.iconst 1, 1) := by decide +kernel
theorem dX5_readLine_9 : decode cX5_readLine 9 = .ok (.invokevirtual 59, 3) := by decide +kernel
theorem dX5_readLine_12 : decode cX5_readLine 12 = .ok (.return_, 1) := by decide +kernel
theorem dX5_readLine_13 : decode cX5_readLine 13 = .ok (.aload_n 0, 1) := by decide +kernel
theorem dX5_readLine_14 : decode cX5_readLine 14 = .ok (.getfield 27, 3) := by decide +kernel
theorem dX5_readLine_17 : decode cX5_readLine 17 = .ok (.getfield 62, 3) := by decide +kernel
theorem dX5_readLine_20 : decode cX5_readLine 20 = .ok (.bipush 8, 2) := by decide +kernel
theorem dX5_readLine_22 : decode cX5_readLine 22 = .ok (.if_icmp .lt 9, 3) := by decide +kernel
theorem dX5_readLine_25 : decode cX5_readLine 25 = .ok (.aload_n 0, 1) := by decide +kernel
theorem dX5_readLine_26 : decode cX5_readLine 26 = .ok (.iconst 3, 1) := by decide +kernel
theorem dX5_readLine_27 : decode cX5_readLine 27 = .ok (.invokevirtual 59, 3) := by decide +kernel
theorem dX5_readLine_30 : decode cX5_readLine 30 = .ok (.return_, 1) := by decide +kernel
theorem dX5_readLine_31 : decode cX5_readLine 31 = .ok (.aload_n 0, 1) := by decide +kernel
theorem dX5_readLine_32 : decode cX5_readLine 32 = .ok (.iconst 4, 1) := by decide +kernel
theorem dX5_readLine_33 : decode cX5_readLine 33 = .ok (.invokevirtual 65, 3) := by decide +kernel
theorem dX5_readLine_36 : decode cX5_readLine 36 = .ok (.aload_n 0, 1) := by decide +kernel
theorem dX5_readLine_37 : decode cX5_readLine 37 = .ok (.invokevirtual 68, 3) := by decide +kernel
theorem dX5_readLine_40 : decode cX5_readLine 40 = .ok (.bipush 40, 2) := by decide +kernel
theorem dX5_readLine_42 : decode cX5_readLine 42 = .ok (.if_icmp .eq 9, 3) := by decide +kernel
theorem dX5_readLine_45 : decode cX5_readLine 45 = .ok (.aload_n 0, 1) := by decide +kernel
theorem dX5_readLine_46 : decode cX5_readLine 46 = .ok (.iconst 1, 1) := by decide +kernel
theorem dX5_readLine_47 : decode cX5_readLine 47 = .ok (.invokevirtual 59, 3) := by decide +kernel
theorem dX5_readLine_50 : decode cX5_readLine 50 = .ok (.return_, 1) := by decide +kernel
theorem dX5_readLine_51 : decode cX5_readLine 51 = .ok (.aload_n 0, 1) := by decide +kernel
theorem dX5_readLine_52 : decode cX5_readLine 52 = .ok (.getfield 27, 3) := by decide +kernel
theorem dX5_readLine_55 : decode cX5_readLine 55 = .ok (.invokevirtual 72, 3) := by decide +kernel
theorem dX5_readLine_58 : decode cX5_readLine 58 = .ok (.aload_n 0, 1) := by decide +kernel
theorem dX5_readLine_59 : decode cX5_readLine 59 = .ok (.iconst (-1), 1) := by decide +kernel
theorem dX5_readLine_60 : decode cX5_readLine 60 = .ok (.putfield 75, 3) := by decide +kernel
theorem dX5_readLine_63 : decode cX5_readLine 63 = .ok (.aload_n 0, 1) := by decide +kernel
theorem dX5_readLine_64 : decode cX5_readLine 64 = .ok (.invokevirtual 78, 3) := by decide +kernel
theorem dX5_readLine_67 : decode cX5_readLine 67 = .ok (.iconst 0, 1) := by decide +kernel
theorem dX5_readLine_68 : decode cX5_readLine 68 = .ok (.istore_n 1, 1) := by decide +kernel
theorem dX5_readLine_69 : decode cX5_readLine 69 = .ok (.iload_n 1, 1) := by decide +kernel
theorem dX5_readLine_70 : decode cX5_readLine 70 = .ok (.sipush 400, 3) := by decide +kernel
theorem dX5_readLine_73 : decode cX5_readLine 73 = .ok (.if_icmp .ge 28, 3) := by decide +kernel
theorem dX5_readLine_76 : decode cX5_readLine 76 = .ok (.aload_n 0, 1) := by decide +kernel
theorem dX5_readLine_77 : decode cX5_readLine 77 = .ok (.getfield 75, 3) := by decide +kernel
theorem dX5_readLine_80 : decode cX5_readLine 80 = .ok (.iconst (-1), 1) := by decide +kernel
theorem dX5_readLine_81 : decode cX5_readLine 81 = .ok (.if_icmp .eq 20, 3) := by decide +kernel
theorem dX5_readLine_84 : decode cX5_readLine 84 = .ok (.aload_n 0, 1) := by decide +kernel
theorem dX5_readLine_85 : decode cX5_readLine 85 = .ok (.getfield 9, 3) := by decide +kernel
theorem dX5_readLine_88 : decode cX5_readLine 88 = .ok (.ifCond .ne 13, 3) := by decide +kernel
theorem dX5_readLine_91 : decode cX5_readLine 91 = .ok (.aload_n 0, 1) := by decide +kernel
theorem dX5_readLine_92 : decode cX5_readLine 92 = .ok (.invokevirtual 81, 3) := by decide +kernel
theorem dX5_readLine_95 : decode cX5_readLine 95 = .ok (.iinc 1 1, 3) := by decide +kernel
theorem dX5_readLine_98 : decode cX5_readLine 98 = .ok (.goto (-29), 3) := by decide +kernel
theorem dX5_readLine_101 : decode cX5_readLine 101 = .ok (.aload_n 0, 1) := by decide +kernel
theorem dX5_readLine_102 : decode cX5_readLine 102 = .ok (.getfield 9, 3) := by decide +kernel
theorem dX5_readLine_105 : decode cX5_readLine 105 = .ok (.ifCond .ne 7, 3) := by decide +kernel
theorem dX5_readLine_108 : decode cX5_readLine 108 = .ok (.aload_n 0, 1) := by decide +kernel
theorem dX5_readLine_109 : decode cX5_readLine 109 = .ok (.invokevirtual 84, 3) := by decide +kernel
theorem dX5_readLine_112 : decode cX5_readLine 112 = .ok (.return_, 1) := by decide +kernel
theorem dX5_readLineEnd_0 : decode cX5_readLineEnd 0 = .ok (.aload_n 0, 1) := by decide +kernel
theorem dX5_readLineEnd_1 : decode cX5_readLineEnd 1 = .ok (.getfield 27, 3) := by decide +kernel
theorem dX5_readLineEnd_4 : decode cX5_readLineEnd 4 = .ok (.invokevirtual 87, 3) := by decide +kernel
theorem dX5_readLineEnd_7 : decode cX5_readLineEnd 7 = .ok (.aload_n 0, 1) := by decide +kernel
theorem dX5_readLineEnd_8 : decode cX5_readLineEnd 8 = .ok (.invokevirtual 68, 3) := by decide +kernel
theorem dX5_readLineEnd_11 : decode cX5_readLineEnd 11 = .ok (.bipush 59, 2) := by decide +kernel
theorem dX5_readLineEnd_13 : decode cX5_readLineEnd 13 = .ok (.if_icmp .eq 9, 3) := by decide +kernel
theorem dX5_readLineEnd_16 : decode cX5_readLineEnd 16 = .ok (.aload_n 0, 1) := by decide +kernel
theorem dX5_readLineEnd_17 : decode cX5_readLineEnd 17 = .ok (.iconst 1, 1) := by decide +kernel
theorem dX5_readLineEnd_18 : decode cX5_readLineEnd 18 = .ok (.invokevirtual 59, 3) := by decide +kernel
theorem dX5_readLineEnd_21 : decode cX5_readLineEnd 21 = .ok (.return_, 1) := by decide +kernel
theorem dX5_readLineEnd_22 : decode cX5_readLineEnd 22 = .ok (.aload_n 0, 1) := by decide +kernel
theorem dX5_readLineEnd_23 : decode cX5_readLineEnd 23 = .ok (.iconst 1, 1) := by decide +kernel
theorem dX5_readLineEnd_24 : decode cX5_readLineEnd 24 = .ok (.invokevirtual 65, 3) := by decide +kernel
theorem dX5_readLineEnd_27 : decode cX5_readLineEnd 27 = .ok (.return_, 1) := by decide +kernel
theorem dX5_readOpening_0 : decode cX5_readOpening 0 = .ok (.aload_n 0, 1) := by decide +kernel
theorem dX5_readOpening_1 : decode cX5_readOpening 1 = .ok (.iconst 1, 1) := by decide +kernel
theorem dX5_readOpening_2 : decode cX5_readOpening 2 = .ok (.invokevirtual 65, 3) := by decide +kernel
theorem dX5_readOpening_5 : decode cX5_readOpening 5 = .ok (.aload_n 0, 1) := by decide +kernel
theorem dX5_readOpening_6 : decode cX5_readOpening 6 = .ok (.invokevirtual 68, 3) := by decide +kernel
theorem dX5_readOpening_9 : decode cX5_readOpening 9 = .ok (.invokestatic 90, 3) := by decide +kernel
theorem dX5_readOpening_12 : decode cX5_readOpening 12 = .ok (.ifCond .ne 9, 3) := by decide +kernel
theorem dX5_readOpening_15 : decode cX5_readOpening 15 = .ok (.aload_n 0, 1) := by decide +kernel
theorem dX5_readOpening_16 : decode cX5_readOpening 16 = .ok (.iconst 1, 1) := by decide +kernel
theorem dX5_readOpening_17 : decode cX5_readOpening 17 = .ok (.invokevirtual 59, 3) := by decide +kernel
theorem dX5_readOpening_20 : decode cX5_readOpening 20 = .ok (.return_, 1) := by decide +kernel
theorem dX5_readOpening_21 : decode cX5_readOpening 21 = .ok (.aload_n 0, 1) := by decide +kernel
theorem dX5_readOpening_22 : decode cX5_readOpening 22 = .ok (.getfield 27, 3) := by decide +kernel
theorem dX5_readOpening_25 : decode cX5_readOpening 25 = .ok (.invokevirtual 94, 3) := by decide +kernel
theorem dX5_readOpening_28 : decode cX5_readOpening 28 = .ok (.ifCond .ne 9, 3) := by decide +kernel
theorem dX5_readOpening_31 : decode cX5_readOpening 31 = .ok (.aload_n 0, 1) := by decide +kernel
theorem dX5_readOpening_32 : decode cX5_readOpening 32 = .ok (.iconst 3, 1) := by decide +kernel
theorem dX5_readOpening_33 : decode cX5_readOpening 33 = .ok (.invokevirtual 59, 3) := by decide +kernel
theorem dX5_readOpening_36 : decode cX5_readOpening 36 = .ok (.return_, 1) := by decide +kernel
theorem dX5_readOpening_37 : decode cX5_readOpening 37 = .ok (.aload_n 0, 1) := by decide +kernel
theorem dX5_readOpening_38 : decode cX5_readOpening 38 = .ok (.aload_n 0, 1) := by decide +kernel
theorem dX5_readOpening_39 : decode cX5_readOpening 39 = .ok (.getfield 27, 3) := by decide +kernel
theorem dX5_readOpening_42 : decode cX5_readOpening 42 = .ok (.iconst 0, 1) := by decide +kernel
theorem dX5_readOpening_43 : decode cX5_readOpening 43 = .ok (.aload_n 0, 1) := by decide +kernel
theorem dX5_readOpening_44 : decode cX5_readOpening 44 = .ok (.invokevirtual 68, 3) := by decide +kernel
theorem dX5_readOpening_47 : decode cX5_readOpening 47 = .ok (.bipush 65, 2) := by decide +kernel
theorem dX5_readOpening_49 : decode cX5_readOpening 49 = .ok (.isub, 1) := by decide +kernel
theorem dX5_readOpening_50 : decode cX5_readOpening 50 = .ok (.aload_n 0, 1) := by decide +kernel
theorem dX5_readOpening_51 : decode cX5_readOpening 51 = .ok (.getfield 75, 3) := by decide +kernel
theorem dX5_readOpening_54 : decode cX5_readOpening 54 = .ok (.invokevirtual 97, 3) := by decide +kernel
theorem dX5_readOpening_57 : decode cX5_readOpening 57 = .ok (.putfield 75, 3) := by decide +kernel
theorem dX5_readOpening_60 : decode cX5_readOpening 60 = .ok (.aload_n 0, 1) := by decide +kernel
theorem dX5_readOpening_61 : decode cX5_readOpening 61 = .ok (.iconst 1, 1) := by decide +kernel
theorem dX5_readOpening_62 : decode cX5_readOpening 62 = .ok (.invokevirtual 65, 3) := by decide +kernel
theorem dX5_readOpening_65 : decode cX5_readOpening 65 = .ok (.aload_n 0, 1) := by decide +kernel
theorem dX5_readOpening_66 : decode cX5_readOpening 66 = .ok (.invokevirtual 68, 3) := by decide +kernel
theorem dX5_readOpening_69 : decode cX5_readOpening 69 = .ok (.bipush 33, 2) := by decide +kernel
theorem dX5_readOpening_71 : decode cX5_readOpening 71 = .ok (.if_icmp .eq 12, 3) := by decide +kernel
theorem dX5_readOpening_74 : decode cX5_readOpening 74 = .ok (.aload_n 0, 1) := by decide +kernel
theorem dX5_readOpening_75 : decode cX5_readOpening 75 = .ok (.invokevirtual 68, 3) := by decide +kernel
theorem dX5_readOpening_78 : decode cX5_readOpening 78 = .ok (.bipush 43, 2) := by decide +kernel
theorem dX5_readOpening_80 : decode cX5_readOpening 80 = .ok (.if_icmp .ne 34, 3) := by decide +kernel
theorem dX5_readOpening_83 : decode cX5_readOpening 83 = .ok (.aload_n 0, 1) := by decide +kernel
theorem dX5_readOpening_84 : decode cX5_readOpening 84 = .ok (.getfield 27, 3) := by decide +kernel
theorem dX5_readOpening_87 : decode cX5_readOpening 87 = .ok (.getfield 101, 3) := by decide +kernel
theorem dX5_readOpening_90 : decode cX5_readOpening 90 = .ok (.aload_n 0, 1) := by decide +kernel
theorem dX5_readOpening_91 : decode cX5_readOpening 91 = .ok (.getfield 75, 3) := by decide +kernel
theorem dX5_readOpening_94 : decode cX5_readOpening 94 = .ok (.aload_n 0, 1) := by decide +kernel
theorem dX5_readOpening_95 : decode cX5_readOpening 95 = .ok (.invokevirtual 68, 3) := by decide +kernel
theorem dX5_readOpening_98 : decode cX5_readOpening 98 = .ok (.bipush 33, 2) := by decide +kernel
theorem dX5_readOpening_100 : decode cX5_readOpening 100 = .ok (.if_icmp .ne 7, 3) := by decide +kernel
theorem dX5_readOpening_103 : decode cX5_readOpening 103 = .ok (.iconst 1, 1) := by decide +kernel
theorem dX5_readOpening_104 : decode cX5_readOpening 104 = .ok (.goto 4, 3) := by decide +kernel
theorem dX5_readOpening_107 : decode cX5_readOpening 107 = .ok (.iconst 2, 1) := by decide +kernel
theorem dX5_readOpening_108 : decode cX5_readOpening 108 = .ok (.iastore, 1) := by decide +kernel
theorem dX5_readOpening_109 : decode cX5_readOpening 109 = .ok (.aload_n 0, 1) := by decide +kernel
theorem dX5_readOpening_110 : decode cX5_readOpening 110 = .ok (.iconst 1, 1) := by decide +kernel
theorem dX5_readOpening_111 : decode cX5_readOpening 111 = .ok (.invokevirtual 65, 3) := by decide +kernel
theorem dX5_readOpening_114 : decode cX5_readOpening 114 = .ok (.return_, 1) := by decide +kernel
theorem dX5_readPart_0 : decode cX5_readPart 0 = .ok (.aload_n 0, 1) := by decide +kernel
theorem dX5_readPart_1 : decode cX5_readPart 1 = .ok (.invokevirtual 68, 3) := by decide +kernel
theorem dX5_readPart_4 : decode cX5_readPart 4 = .ok (.bipush 41, 2) := by decide +kernel
theorem dX5_readPart_6 : decode cX5_readPart 6 = .ok (.if_icmp .ne 10, 3) := by decide +kernel
theorem dX5_readPart_9 : decode cX5_readPart 9 = .ok (.aload_n 0, 1) := by decide +kernel
theorem dX5_readPart_10 : decode cX5_readPart 10 = .ok (.invokevirtual 105, 3) := by decide +kernel
theorem dX5_readPart_13 : decode cX5_readPart 13 = .ok (.goto 91, 3) := by decide +kernel
theorem dX5_readPart_16 : decode cX5_readPart 16 = .ok (.aload_n 0, 1) := by decide +kernel
theorem dX5_readPart_17 : decode cX5_readPart 17 = .ok (.getfield 27, 3) := by decide +kernel
theorem dX5_readPart_20 : decode cX5_readPart 20 = .ok (.getfield 108, 3) := by decide +kernel
theorem dX5_readPart_23 : decode cX5_readPart 23 = .ok (.aload_n 0, 1) := by decide +kernel
theorem dX5_readPart_24 : decode cX5_readPart 24 = .ok (.getfield 75, 3) := by decide +kernel
theorem dX5_readPart_27 : decode cX5_readPart 27 = .ok (.iaload, 1) := by decide +kernel
theorem dX5_readPart_28 : decode cX5_readPart 28 = .ok (.iconst (-1), 1) := by decide +kernel
theorem dX5_readPart_29 : decode cX5_readPart 29 = .ok (.if_icmp .eq 11, 3) := by decide +kernel
theorem dX5_readPart_32 : decode cX5_readPart 32 = .ok (.aload_n 0, 1) := by decide +kernel
theorem dX5_readPart_33 : decode cX5_readPart 33 = .ok (.iconst 1, 1) := by decide +kernel
theorem dX5_readPart_34 : decode cX5_readPart 34 = .ok (.invokevirtual 59, 3) := by decide +kernel
theorem dX5_readPart_37 : decode cX5_readPart 37 = .ok (.goto 67, 3) := by decide +kernel
theorem dX5_readPart_40 : decode cX5_readPart 40 = .ok (.aload_n 0, 1) := by decide +kernel
theorem dX5_readPart_41 : decode cX5_readPart 41 = .ok (.invokevirtual 68, 3) := by decide +kernel
theorem dX5_readPart_44 : decode cX5_readPart 44 = .ok (.bipush 40, 2) := by decide +kernel
theorem dX5_readPart_46 : decode cX5_readPart 46 = .ok (.if_icmp .ne 10, 3) := by decide +kernel
theorem dX5_readPart_49 : decode cX5_readPart 49 = .ok (.aload_n 0, 1) := by decide +kernel
theorem dX5_readPart_50 : decode cX5_readPart 50 = .ok (.invokevirtual 78, 3) := by decide +kernel
theorem dX5_readPart_53 : decode cX5_readPart 53 = .ok (.goto 51, 3) := by decide +kernel
theorem dX5_readPart_56 : decode cX5_readPart 56 = .ok (.aload_n 0, 1) := by decide +kernel
theorem dX5_readPart_57 : decode cX5_readPart 57 = .ok (.invokevirtual 68, 3) := by decide +kernel
theorem dX5_readPart_60 : decode cX5_readPart 60 = .ok (.invokestatic 90, 3) := by decide +kernel
theorem dX5_readPart_63 : decode cX5_readPart 63 = .ok (.ifCond .eq 10, 3) := by decide +kernel
theorem dX5_readPart_66 : decode cX5_readPart 66 = .ok (.aload_n 0, 1) := by decide +kernel
theorem dX5_readPart_67 : decode cX5_readPart 67 = .ok (.invokevirtual 111, 3) := by decide +kernel
theorem dX5_readPart_70 : decode cX5_readPart 70 = .ok (.goto 34, 3) := by decide +kernel
theorem dX5_readPart_73 : decode cX5_readPart 73 = .ok (.aload_n 0, 1) := by decide +kernel
theorem dX5_readPart_74 : decode cX5_readPart 74 = .ok (.invokevirtual 68, 3) := by decide +kernel
theorem dX5_readPart_77 : decode cX5_readPart 77 = .ok (.invokestatic 114, 3) := by decide +kernel
theorem dX5_readPart_80 : decode cX5_readPart 80 = .ok (.ifCond .ne 12, 3) := by decide +kernel
theorem dX5_readPart_83 : decode cX5_readPart 83 = .ok (.aload_n 0, 1) := by decide +kernel
theorem dX5_readPart_84 : decode cX5_readPart 84 = .ok (.invokevirtual 68, 3) := by decide +kernel
theorem dX5_readPart_87 : decode cX5_readPart 87 = .ok (.bipush 46, 2) := by decide +kernel
theorem dX5_readPart_89 : decode cX5_readPart 89 = .ok (.if_icmp .ne 10, 3) := by decide +kernel
theorem dX5_readPart_92 : decode cX5_readPart 92 = .ok (.aload_n 0, 1) := by decide +kernel
theorem dX5_readPart_93 : decode cX5_readPart 93 = .ok (.invokevirtual 117, 3) := by decide +kernel
theorem dX5_readPart_96 : decode cX5_readPart 96 = .ok (.goto 8, 3) := by decide +kernel
theorem dX5_readPart_99 : decode cX5_readPart 99 = .ok (.aload_n 0, 1) := by decide +kernel
theorem dX5_readPart_100 : decode cX5_readPart 100 = .ok (.iconst 1, 1) := by decide +kernel
theorem dX5_readPart_101 : decode cX5_readPart 101 = .ok (.invokevirtual 59, 3) := by decide +kernel
theorem dX5_readPart_104 : decode cX5_readPart 104 = .ok (.return_, 1) := by decide +kernel
theorem dX5_readClosing_0 : decode cX5_readClosing 0 = .ok (.aload_n 0, 1) := by decide +kernel
theorem dX5_readClosing_1 : decode cX5_readClosing 1 = .ok (.getfield 27, 3) := by decide +kernel
theorem dX5_readClosing_4 : decode cX5_readClosing 4 = .ok (.getfield 120, 3) := by decide +kernel
theorem dX5_readClosing_7 : decode cX5_readClosing 7 = .ok (.aload_n 0, 1) := by decide +kernel
theorem dX5_readClosing_8 : decode cX5_readClosing 8 = .ok (.getfield 75, 3) := by decide +kernel
theorem dX5_readClosing_11 : decode cX5_readClosing 11 = .ok (.iaload, 1) := by decide +kernel
theorem dX5_readClosing_12 : decode cX5_readClosing 12 = .ok (.iconst (-1), 1) := by decide +kernel
theorem dX5_readClosing_13 : decode cX5_readClosing 13 = .ok (.if_icmp .ne 9, 3) := by decide +kernel
theorem dX5_readClosing_16 : decode cX5_readClosing 16 = .ok (.aload_n 0, 1) := by decide +kernel
theorem dX5_readClosing_17 : decode cX5_readClosing 17 = .ok (.iconst 1, 1) := by decide +kernel
theorem dX5_readClosing_18 : decode cX5_readClosing 18 = .ok (.invokevirtual 59, 3) := by decide +kernel
theorem dX5_readClosing_21 : decode cX5_readClosing 21 = .ok (.return_, 1) := by decide +kernel
theorem dX5_readClosing_22 : decode cX5_readClosing 22 = .ok (.aload_n 0, 1) := by decide +kernel
theorem dX5_readClosing_23 : decode cX5_readClosing 23 = .ok (.getfield 27, 3) := by decide +kernel
theorem dX5_readClosing_26 : decode cX5_readClosing 26 = .ok (.getfield 123, 3) := by decide +kernel
theorem dX5_readClosing_29 : decode cX5_readClosing 29 = .ok (.aload_n 0, 1) := by decide +kernel
theorem dX5_readClosing_30 : decode cX5_readClosing 30 = .ok (.getfield 75, 3) := by decide +kernel
theorem dX5_readClosing_33 : decode cX5_readClosing 33 = .ok (.iaload, 1) := by decide +kernel
theorem dX5_readClosing_34 : decode cX5_readClosing 34 = .ok (.iconst (-1), 1) := by decide +kernel
theorem dX5_readClosing_35 : decode cX5_readClosing 35 = .ok (.if_icmp .ne 16, 3) := by decide +kernel
theorem dX5_readClosing_38 : decode cX5_readClosing 38 = .ok (.aload_n 0, 1) := by decide +kernel
theorem dX5_readClosing_39 : decode cX5_readClosing 39 = .ok (.invokevirtual 126, 3) := by decide +kernel
theorem dX5_readClosing_42 : decode cX5_readClosing 42 = .ok (.ifCond .eq 9, 3) := by decide +kernel
theorem dX5_readClosing_45 : decode cX5_readClosing 45 = .ok (.aload_n 0, 1) := by decide +kernel
theorem dX5_readClosing_46 : decode cX5_readClosing 46 = .ok (.iconst 4, 1) := by decide +kernel
theorem dX5_readClosing_47 : decode cX5_readClosing 47 = .ok (.invokevirtual 59, 3) := by decide +kernel
theorem dX5_readClosing_50 : decode cX5_readClosing 50 = .ok (.return_, 1) := by decide +kernel
theorem dX5_readClosing_51 : decode cX5_readClosing 51 = .ok (.aload_n 0, 1) := by decide +kernel
theorem dX5_readClosing_52 : decode cX5_readClosing 52 = .ok (.aload_n 0, 1) := by decide +kernel
theorem dX5_readClosing_53 : decode cX5_readClosing 53 = .ok (.getfield 27, 3) := by decide +kernel
theorem dX5_readClosing_56 : decode cX5_readClosing 56 = .ok (.getfield 123, 3) := by decide +kernel
theorem dX5_readClosing_59 : decode cX5_readClosing 59 = .ok (.aload_n 0, 1) := by decide +kernel
theorem dX5_readClosing_60 : decode cX5_readClosing 60 = .ok (.getfield 75, 3) := by decide +kernel
theorem dX5_readClosing_63 : decode cX5_readClosing 63 = .ok (.iaload, 1) := by decide +kernel
theorem dX5_readClosing_64 : decode cX5_readClosing 64 = .ok (.putfield 75, 3) := by decide +kernel
theorem dX5_readClosing_67 : decode cX5_readClosing 67 = .ok (.aload_n 0, 1) := by decide +kernel
theorem dX5_readClosing_68 : decode cX5_readClosing 68 = .ok (.iconst 1, 1) := by decide +kernel
theorem dX5_readClosing_69 : decode cX5_readClosing 69 = .ok (.invokevirtual 65, 3) := by decide +kernel
theorem dX5_readClosing_72 : decode cX5_readClosing 72 = .ok (.return_, 1) := by decide +kernel
theorem dX5_lacksLetter_0 : decode cX5_lacksLetter 0 = .ok (.aload_n 0, 1) := by decide +kernel
theorem dX5_lacksLetter_1 : decode cX5_lacksLetter 1 = .ok (.getfield 27, 3) := by decide +kernel
theorem dX5_lacksLetter_4 : decode cX5_lacksLetter 4 = .ok (.getfield 62, 3) := by decide +kernel
theorem dX5_lacksLetter_7 : decode cX5_lacksLetter 7 = .ok (.iconst 1, 1) := by decide +kernel
theorem dX5_lacksLetter_8 : decode cX5_lacksLetter 8 = .ok (.isub, 1) := by decide +kernel
theorem dX5_lacksLetter_9 : decode cX5_lacksLetter 9 = .ok (.istore_n 1, 1) := by decide +kernel
theorem dX5_lacksLetter_10 : decode cX5_lacksLetter 10 = .ok (.aload_n 0, 1) := by decide +kernel
theorem dX5_lacksLetter_11 : decode cX5_lacksLetter 11 = .ok (.getfield 27, 3) := by decide +kernel
theorem dX5_lacksLetter_14 : decode cX5_lacksLetter 14 = .ok (.getfield 129, 3) := by decide +kernel
theorem dX5_lacksLetter_17 : decode cX5_lacksLetter 17 = .ok (.aload_n 0, 1) := by decide +kernel
theorem dX5_lacksLetter_18 : decode cX5_lacksLetter 18 = .ok (.getfield 75, 3) := by decide +kernel
theorem dX5_lacksLetter_21 : decode cX5_lacksLetter 21 = .ok (.iaload, 1) := by decide +kernel
theorem dX5_lacksLetter_22 : decode cX5_lacksLetter 22 = .ok (.ifCond .ne 33, 3) := by decide +kernel
theorem dX5_lacksLetter_25 : decode cX5_lacksLetter 25 = .ok (.aload_n 0, 1) := by decide +kernel
theorem dX5_lacksLetter_26 : decode cX5_lacksLetter 26 = .ok (.getfield 27, 3) := by decide +kernel
theorem dX5_lacksLetter_29 : decode cX5_lacksLetter 29 = .ok (.getfield 132, 3) := by decide +kernel
theorem dX5_lacksLetter_32 : decode cX5_lacksLetter 32 = .ok (.aload_n 0, 1) := by decide +kernel
theorem dX5_lacksLetter_33 : decode cX5_lacksLetter 33 = .ok (.getfield 75, 3) := by decide +kernel
theorem dX5_lacksLetter_36 : decode cX5_lacksLetter 36 = .ok (.baload, 1) := by decide +kernel
theorem dX5_lacksLetter_37 : decode cX5_lacksLetter 37 = .ok (.ifCond .ne 14, 3) := by decide +kernel
theorem dX5_lacksLetter_40 : decode cX5_lacksLetter 40 = .ok (.aload_n 0, 1) := by decide +kernel
theorem dX5_lacksLetter_41 : decode cX5_lacksLetter 41 = .ok (.getfield 27, 3) := by decide +kernel
theorem dX5_lacksLetter_44 : decode cX5_lacksLetter 44 = .ok (.iload_n 1, 1) := by decide +kernel
theorem dX5_lacksLetter_45 : decode cX5_lacksLetter 45 = .ok (.invokevirtual 136, 3) := by decide +kernel
theorem dX5_lacksLetter_48 : decode cX5_lacksLetter 48 = .ok (.ifCond .le 7, 3) := by decide +kernel
theorem dX5_lacksLetter_51 : decode cX5_lacksLetter 51 = .ok (.iconst 1, 1) := by decide +kernel
theorem dX5_lacksLetter_52 : decode cX5_lacksLetter 52 = .ok (.goto 4, 3) := by decide +kernel
theorem dX5_lacksLetter_55 : decode cX5_lacksLetter 55 = .ok (.iconst 0, 1) := by decide +kernel
theorem dX5_lacksLetter_56 : decode cX5_lacksLetter 56 = .ok (.ireturn, 1) := by decide +kernel
theorem dX5_readSign_0 : decode cX5_readSign 0 = .ok (.aload_n 0, 1) := by decide +kernel
theorem dX5_readSign_1 : decode cX5_readSign 1 = .ok (.getfield 27, 3) := by decide +kernel
theorem dX5_readSign_4 : decode cX5_readSign 4 = .ok (.invokevirtual 94, 3) := by decide +kernel
theorem dX5_readSign_7 : decode cX5_readSign 7 = .ok (.ifCond .ne 9, 3) := by decide +kernel
theorem dX5_readSign_10 : decode cX5_readSign 10 = .ok (.aload_n 0, 1) := by decide +kernel
theorem dX5_readSign_11 : decode cX5_readSign 11 = .ok (.iconst 3, 1) := by decide +kernel
theorem dX5_readSign_12 : decode cX5_readSign 12 = .ok (.invokevirtual 59, 3) := by decide +kernel
theorem dX5_readSign_15 : decode cX5_readSign 15 = .ok (.return_, 1) := by decide +kernel
theorem dX5_readSign_16 : decode cX5_readSign 16 = .ok (.aload_n 0, 1) := by decide +kernel
theorem dX5_readSign_17 : decode cX5_readSign 17 = .ok (.invokevirtual 68, 3) := by decide +kernel
theorem dX5_readSign_20 : decode cX5_readSign 20 = .ok (.bipush 46, 2) := by decide +kernel
theorem dX5_readSign_22 : decode cX5_readSign 22 = .ok (.if_icmp .ne 20, 3) := by decide +kernel
theorem dX5_readSign_25 : decode cX5_readSign 25 = .ok (.aload_n 0, 1) := by decide +kernel
theorem dX5_readSign_26 : decode cX5_readSign 26 = .ok (.getfield 27, 3) := by decide +kernel
theorem dX5_readSign_29 : decode cX5_readSign 29 = .ok (.iconst 2, 1) := by decide +kernel
theorem dX5_readSign_30 : decode cX5_readSign 30 = .ok (.iconst (-1), 1) := by decide +kernel
theorem dX5_readSign_31 : decode cX5_readSign 31 = .ok (.aload_n 0, 1) := by decide +kernel
theorem dX5_readSign_32 : decode cX5_readSign 32 = .ok (.getfield 75, 3) := by decide +kernel
theorem dX5_readSign_35 : decode cX5_readSign 35 = .ok (.invokevirtual 97, 3) := by decide +kernel
theorem dX5_readSign_38 : decode cX5_readSign 38 = .ok (.pop, 1) := by decide +kernel
theorem dX5_readSign_39 : decode cX5_readSign 39 = .ok (.goto 21, 3) := by decide +kernel
theorem dX5_readSign_42 : decode cX5_readSign 42 = .ok (.aload_n 0, 1) := by decide +kernel
theorem dX5_readSign_43 : decode cX5_readSign 43 = .ok (.getfield 27, 3) := by decide +kernel
theorem dX5_readSign_46 : decode cX5_readSign 46 = .ok (.aload_n 0, 1) := by decide +kernel
theorem dX5_readSign_47 : decode cX5_readSign 47 = .ok (.invokevirtual 68, 3) := by decide +kernel
theorem dX5_readSign_50 : decode cX5_readSign 50 = .ok (.bipush 97, 2) := by decide +kernel
theorem dX5_readSign_52 : decode cX5_readSign 52 = .ok (.isub, 1) := by decide +kernel
theorem dX5_readSign_53 : decode cX5_readSign 53 = .ok (.aload_n 0, 1) := by decide +kernel
theorem dX5_readSign_54 : decode cX5_readSign 54 = .ok (.getfield 75, 3) := by decide +kernel
theorem dX5_readSign_57 : decode cX5_readSign 57 = .ok (.invokevirtual 139, 3) := by decide +kernel
theorem dX5_readSign_60 : decode cX5_readSign 60 = .ok (.aload_n 0, 1) := by decide +kernel
theorem dX5_readSign_61 : decode cX5_readSign 61 = .ok (.iconst 1, 1) := by decide +kernel
theorem dX5_readSign_62 : decode cX5_readSign 62 = .ok (.invokevirtual 65, 3) := by decide +kernel
theorem dX5_readSign_65 : decode cX5_readSign 65 = .ok (.return_, 1) := by decide +kernel
theorem dX5_readLabelled_0 : decode cX5_readLabelled 0 = .ok (.aload_n 0, 1) := by decide +kernel
theorem dX5_readLabelled_1 : decode cX5_readLabelled 1 = .ok (.invokevirtual 68, 3) := by decide +kernel
theorem dX5_readLabelled_4 : decode cX5_readLabelled 4 = .ok (.bipush 65, 2) := by decide +kernel
theorem dX5_readLabelled_6 : decode cX5_readLabelled 6 = .ok (.isub, 1) := by decide +kernel
theorem dX5_readLabelled_7 : decode cX5_readLabelled 7 = .ok (.istore_n 1, 1) := by decide +kernel
theorem dX5_readLabelled_8 : decode cX5_readLabelled 8 = .ok (.aload_n 0, 1) := by decide +kernel
theorem dX5_readLabelled_9 : decode cX5_readLabelled 9 = .ok (.getfield 23, 3) := by decide +kernel
theorem dX5_readLabelled_12 : decode cX5_readLabelled 12 = .ok (.aload_n 0, 1) := by decide +kernel
theorem dX5_readLabelled_13 : decode cX5_readLabelled 13 = .ok (.getfield 23, 3) := by decide +kernel
theorem dX5_readLabelled_16 : decode cX5_readLabelled 16 = .ok (.aload_n 0, 1) := by decide +kernel
theorem dX5_readLabelled_17 : decode cX5_readLabelled 17 = .ok (.getfield 40, 3) := by decide +kernel
theorem dX5_readLabelled_20 : decode cX5_readLabelled 20 = .ok (.iconst 1, 1) := by decide +kernel
theorem dX5_readLabelled_21 : decode cX5_readLabelled 21 = .ok (.iadd, 1) := by decide +kernel
theorem dX5_readLabelled_22 : decode cX5_readLabelled 22 = .ok (.invokevirtual 36, 3) := by decide +kernel
theorem dX5_readLabelled_25 : decode cX5_readLabelled 25 = .ok (.invokevirtual 52, 3) := by decide +kernel
theorem dX5_readLabelled_28 : decode cX5_readLabelled 28 = .ok (.istore_n 2, 1) := by decide +kernel
theorem dX5_readLabelled_29 : decode cX5_readLabelled 29 = .ok (.aload_n 0, 1) := by decide +kernel
theorem dX5_readLabelled_30 : decode cX5_readLabelled 30 = .ok (.getfield 27, 3) := by decide +kernel
theorem dX5_readLabelled_33 : decode cX5_readLabelled 33 = .ok (.getfield 143, 3) := by decide +kernel
theorem dX5_readLabelled_36 : decode cX5_readLabelled 36 = .ok (.aload_n 0, 1) := by decide +kernel
theorem dX5_readLabelled_37 : decode cX5_readLabelled 37 = .ok (.getfield 27, 3) := by decide +kernel
theorem dX5_readLabelled_40 : decode cX5_readLabelled 40 = .ok (.getfield 62, 3) := by decide +kernel
theorem dX5_readLabelled_43 : decode cX5_readLabelled 43 = .ok (.iconst 1, 1) := by decide +kernel
theorem dX5_readLabelled_44 : decode cX5_readLabelled 44 = .ok (.isub, 1) := by decide +kernel
theorem dX5_readLabelled_45 : decode cX5_readLabelled 45 = .ok (.iaload, 1) := by decide +kernel
theorem dX5_readLabelled_46 : decode cX5_readLabelled 46 = .ok (.istore_n 3, 1) := by decide +kernel
theorem dX5_readLabelled_47 : decode cX5_readLabelled 47 = .ok (.iload_n 2, 1) := by decide +kernel
theorem dX5_readLabelled_48 : decode cX5_readLabelled 48 = .ok (.bipush 42, 2) := by decide +kernel
theorem dX5_readLabelled_50 : decode cX5_readLabelled 50 = .ok (.if_icmp .ne 34, 3) := by decide +kernel
theorem dX5_readLabelled_53 : decode cX5_readLabelled 53 = .ok (.aload_n 0, 1) := by decide +kernel
theorem dX5_readLabelled_54 : decode cX5_readLabelled 54 = .ok (.getfield 27, 3) := by decide +kernel
theorem dX5_readLabelled_57 : decode cX5_readLabelled 57 = .ok (.getfield 132, 3) := by decide +kernel
theorem dX5_readLabelled_60 : decode cX5_readLabelled 60 = .ok (.iload_n 3, 1) := by decide +kernel
theorem dX5_readLabelled_61 : decode cX5_readLabelled 61 = .ok (.baload, 1) := by decide +kernel
theorem dX5_readLabelled_62 : decode cX5_readLabelled 62 = .ok (.ifCond .ne 16, 3) := by decide +kernel
theorem dX5_readLabelled_65 : decode cX5_readLabelled 65 = .ok (.aload_n 0, 1) := by decide +kernel
theorem dX5_readLabelled_66 : decode cX5_readLabelled 66 = .ok (.getfield 27, 3) := by decide +kernel
theorem dX5_readLabelled_69 : decode cX5_readLabelled 69 = .ok (.getfield 146, 3) := by decide +kernel
theorem dX5_readLabelled_72 : decode cX5_readLabelled 72 = .ok (.iload_n 3, 1) := by decide +kernel
theorem dX5_readLabelled_73 : decode cX5_readLabelled 73 = .ok (.iaload, 1) := by decide +kernel
theorem dX5_readLabelled_74 : decode cX5_readLabelled 74 = .ok (.iload_n 1, 1) := by decide +kernel
theorem dX5_readLabelled_75 : decode cX5_readLabelled 75 = .ok (.if_icmp .eq 9, 3) := by decide +kernel
theorem dX5_readLabelled_78 : decode cX5_readLabelled 78 = .ok (.aload_n 0, 1) := by decide +kernel
theorem dX5_readLabelled_79 : decode cX5_readLabelled 79 = .ok (.iconst 2, 1) := by decide +kernel
theorem dX5_readLabelled_80 : decode cX5_readLabelled 80 = .ok (.invokevirtual 59, 3) := by decide +kernel
theorem dX5_readLabelled_83 : decode cX5_readLabelled 83 = .ok (.return_, 1) := by decide +kernel
theorem dX5_readLabelled_84 : decode cX5_readLabelled 84 = .ok (.aload_n 0, 1) := by decide +kernel
theorem dX5_readLabelled_85 : decode cX5_readLabelled 85 = .ok (.getfield 27, 3) := by decide +kernel
theorem dX5_readLabelled_88 : decode cX5_readLabelled 88 = .ok (.invokevirtual 94, 3) := by decide +kernel
theorem dX5_readLabelled_91 : decode cX5_readLabelled 91 = .ok (.ifCond .ne 9, 3) := by decide +kernel
theorem dX5_readLabelled_94 : decode cX5_readLabelled 94 = .ok (.aload_n 0, 1) := by decide +kernel
theorem dX5_readLabelled_95 : decode cX5_readLabelled 95 = .ok (.iconst 3, 1) := by decide +kernel
theorem dX5_readLabelled_96 : decode cX5_readLabelled 96 = .ok (.invokevirtual 59, 3) := by decide +kernel
theorem dX5_readLabelled_99 : decode cX5_readLabelled 99 = .ok (.return_, 1) := by decide +kernel
theorem dX5_readLabelled_100 : decode cX5_readLabelled 100 = .ok (.aload_n 0, 1) := by decide +kernel
theorem dX5_readLabelled_101 : decode cX5_readLabelled 101 = .ok (.iconst 1, 1) := by decide +kernel
theorem dX5_readLabelled_102 : decode cX5_readLabelled 102 = .ok (.invokevirtual 65, 3) := by decide +kernel
theorem dX5_readLabelled_105 : decode cX5_readLabelled 105 = .ok (.iload_n 2, 1) := by decide +kernel
theorem dX5_readLabelled_106 : decode cX5_readLabelled 106 = .ok (.bipush 42, 2) := by decide +kernel
theorem dX5_readLabelled_108 : decode cX5_readLabelled 108 = .ok (.if_icmp .ne 18, 3) := by decide +kernel
theorem dX5_readLabelled_111 : decode cX5_readLabelled 111 = .ok (.aload_n 0, 1) := by decide +kernel
theorem dX5_readLabelled_112 : decode cX5_readLabelled 112 = .ok (.getfield 27, 3) := by decide +kernel
theorem dX5_readLabelled_115 : decode cX5_readLabelled 115 = .ok (.iload_n 1, 1) := by decide +kernel
theorem dX5_readLabelled_116 : decode cX5_readLabelled 116 = .ok (.aload_n 0, 1) := by decide +kernel
theorem dX5_readLabelled_117 : decode cX5_readLabelled 117 = .ok (.getfield 75, 3) := by decide +kernel
theorem dX5_readLabelled_120 : decode cX5_readLabelled 120 = .ok (.invokevirtual 149, 3) := by decide +kernel
theorem dX5_readLabelled_123 : decode cX5_readLabelled 123 = .ok (.goto 32, 3) := by decide +kernel
theorem dX5_readLabelled_126 : decode cX5_readLabelled 126 = .ok (.iload_n 2, 1) := by decide +kernel
theorem dX5_readLabelled_127 : decode cX5_readLabelled 127 = .ok (.bipush 94, 2) := by decide +kernel
theorem dX5_readLabelled_129 : decode cX5_readLabelled 129 = .ok (.if_icmp .ne 20, 3) := by decide +kernel
theorem dX5_readLabelled_132 : decode cX5_readLabelled 132 = .ok (.aload_n 0, 1) := by decide +kernel
theorem dX5_readLabelled_133 : decode cX5_readLabelled 133 = .ok (.getfield 27, 3) := by decide +kernel
theorem dX5_readLabelled_136 : decode cX5_readLabelled 136 = .ok (.iconst 4, 1) := by decide +kernel
theorem dX5_readLabelled_137 : decode cX5_readLabelled 137 = .ok (.iload_n 1, 1) := by decide +kernel
theorem dX5_readLabelled_138 : decode cX5_readLabelled 138 = .ok (.aload_n 0, 1) := by decide +kernel
theorem dX5_readLabelled_139 : decode cX5_readLabelled 139 = .ok (.getfield 75, 3) := by decide +kernel
theorem dX5_readLabelled_142 : decode cX5_readLabelled 142 = .ok (.invokevirtual 97, 3) := by decide +kernel
theorem dX5_readLabelled_145 : decode cX5_readLabelled 145 = .ok (.pop, 1) := by decide +kernel
theorem dX5_readLabelled_146 : decode cX5_readLabelled 146 = .ok (.goto 9, 3) := by decide +kernel
theorem dX5_readLabelled_149 : decode cX5_readLabelled 149 = .ok (.aload_n 0, 1) := by decide +kernel
theorem dX5_readLabelled_150 : decode cX5_readLabelled 150 = .ok (.iconst 1, 1) := by decide +kernel
theorem dX5_readLabelled_151 : decode cX5_readLabelled 151 = .ok (.invokevirtual 59, 3) := by decide +kernel
theorem dX5_readLabelled_154 : decode cX5_readLabelled 154 = .ok (.return_, 1) := by decide +kernel
theorem dX5_readLabelled_155 : decode cX5_readLabelled 155 = .ok (.aload_n 0, 1) := by decide +kernel
theorem dX5_readLabelled_156 : decode cX5_readLabelled 156 = .ok (.iconst 1, 1) := by decide +kernel
theorem dX5_readLabelled_157 : decode cX5_readLabelled 157 = .ok (.invokevirtual 65, 3) := by decide +kernel
theorem dX5_readLabelled_160 : decode cX5_readLabelled 160 = .ok (.return_, 1) := by decide +kernel
theorem dX6_init_0 : decode cX6_init 0 = .ok (.aload_n 0, 1) := by decide +kernel
theorem dX6_init_1 : decode cX6_init 1 = .ok (.invokespecial 3, 3) := by decide +kernel
theorem dX6_init_4 : decode cX6_init 4 = .ok (.aload_n 0, 1) := by decide +kernel
theorem dX6_init_5 : decode cX6_init 5 = .ok (.bipush 64, 2) := by decide +kernel
theorem dX6_init_7 : decode cX6_init 7 = .ok (.newarray .int, 2) := by decide +kernel
theorem dX6_init_9 : decode cX6_init 9 = .ok (.putfield 11, 3) := by decide +kernel
theorem dX6_init_12 : decode cX6_init 12 = .ok (.aload_n 0, 1) := by decide +kernel
theorem dX6_init_13 : decode cX6_init 13 = .ok (.sipush 208, 3) := by decide +kernel
theorem dX6_init_16 : decode cX6_init 16 = .ok (.newarray .long, 2) := by decide +kernel
theorem dX6_init_18 : decode cX6_init 18 = .ok (.putfield 15, 3) := by decide +kernel
theorem dX6_init_21 : decode cX6_init 21 = .ok (.return_, 1) := by decide +kernel
theorem dX6_clear_0 : decode cX6_clear 0 = .ok (.aload_n 0, 1) := by decide +kernel
theorem dX6_clear_1 : decode cX6_clear 1 = .ok (.iconst 0, 1) := by decide +kernel
theorem dX6_clear_2 : decode cX6_clear 2 = .ok (.putfield 19, 3) := by decide +kernel
theorem dX6_clear_5 : decode cX6_clear 5 = .ok (.aload_n 0, 1) := by decide +kernel
theorem dX6_clear_6 : decode cX6_clear 6 = .ok (.getfield 15, 3) := by decide +kernel
theorem dX6_clear_9 : decode cX6_clear 9 = .ok (.lconst 0, 1) := by decide +kernel
theorem dX6_clear_10 : decode cX6_clear 10 = .ok (.invokestatic 23, 3) := by decide +kernel
theorem dX6_clear_13 : decode cX6_clear 13 = .ok (.return_, 1) := by decide +kernel
theorem dX6_addChange_0 : decode cX6_addChange 0 = .ok (.iconst 0, 1) := by decide +kernel
theorem dX6_addChange_1 : decode cX6_addChange 1 = .ok (.istore 4, 2) := by decide +kernel
theorem dX6_addChange_3 : decode cX6_addChange 3 = .ok (.iload 4, 2) := by decide +kernel
theorem dX6_addChange_5 : decode cX6_addChange 5 = .ok (.aload_n 1, 1) := by decide +kernel
theorem dX6_addChange_6 : decode cX6_addChange 6 = .ok (.getfield 29, 3) := by decide +kernel
theorem dX6_addChange_9 : decode cX6_addChange 9 = .ok (.if_icmp .ge 31, 3) := by decide +kernel
theorem dX6_addChange_12 : decode cX6_addChange 12 = .ok (.aload_n 0, 1) := by decide +kernel
theorem dX6_addChange_13 : decode cX6_addChange 13 = .ok (.iload 4, 2) := by decide +kernel
theorem dX6_addChange_15 : decode cX6_addChange 15 = .ok (.iload 4, 2) := by decide +kernel
theorem dX6_addChange_17 : decode cX6_addChange 17 = .ok (.iload_n 2, 1) := by decide +kernel
theorem dX6_addChange_18 : decode cX6_addChange 18 = .ok (.if_icmp .ne 7, 3) := by decide +kernel
theorem dX6_addChange_21 : decode cX6_addChange 21 = .ok (.iload_n 3, 1) := by decide +kernel
theorem dX6_addChange_22 : decode cX6_addChange 22 = .ok (.goto 9, 3) := by decide +kernel
theorem dX6_addChange_25 : decode cX6_addChange 25 = .ok (.aload_n 1, 1) := by decide +kernel
theorem dX6_addChange_26 : decode cX6_addChange 26 = .ok (.iload 4, 2) := by decide +kernel
theorem dX6_addChange_28 : decode cX6_addChange 28 = .ok (.invokevirtual 34, 3) := by decide +kernel
theorem dX6_addChange_31 : decode cX6_addChange 31 = .ok (.invokevirtual 38, 3) := by decide +kernel
theorem dX6_addChange_34 : decode cX6_addChange 34 = .ok (.iinc 4 1, 3) := by decide +kernel
theorem dX6_addChange_37 : decode cX6_addChange 37 = .ok (.goto (-34), 3) := by decide +kernel
theorem dX6_addChange_40 : decode cX6_addChange 40 = .ok (.aload_n 0, 1) := by decide +kernel
theorem dX6_addChange_41 : decode cX6_addChange 41 = .ok (.bipush 100, 2) := by decide +kernel
theorem dX6_addChange_43 : decode cX6_addChange 43 = .ok (.iload_n 2, 1) := by decide +kernel
theorem dX6_addChange_44 : decode cX6_addChange 44 = .ok (.imul, 1) := by decide +kernel
theorem dX6_addChange_45 : decode cX6_addChange 45 = .ok (.iload_n 3, 1) := by decide +kernel
theorem dX6_addChange_46 : decode cX6_addChange 46 = .ok (.iadd, 1) := by decide +kernel
theorem dX6_addChange_47 : decode cX6_addChange 47 = .ok (.invokevirtual 42, 3) := by decide +kernel
theorem dX6_addChange_50 : decode cX6_addChange 50 = .ok (.return_, 1) := by decide +kernel
theorem dX6_addSentence_0 : decode cX6_addSentence 0 = .ok (.iload 4, 2) := by decide +kernel
theorem dX6_addSentence_2 : decode cX6_addSentence 2 = .ok (.istore 5, 2) := by decide +kernel
theorem dX6_addSentence_4 : decode cX6_addSentence 4 = .ok (.iconst 0, 1) := by decide +kernel
theorem dX6_addSentence_5 : decode cX6_addSentence 5 = .ok (.istore 6, 2) := by decide +kernel
theorem dX6_addSentence_7 : decode cX6_addSentence 7 = .ok (.iconst 1, 1) := by decide +kernel
theorem dX6_addSentence_8 : decode cX6_addSentence 8 = .ok (.istore 7, 2) := by decide +kernel
theorem dX6_addSentence_10 : decode cX6_addSentence 10 = .ok (.iload_n 3, 1) := by decide +kernel
theorem dX6_addSentence_11 : decode cX6_addSentence 11 = .ok (.iconst 1, 1) := by decide +kernel
theorem dX6_addSentence_12 : decode cX6_addSentence 12 = .ok (.isub, 1) := by decide +kernel
theorem dX6_addSentence_13 : decode cX6_addSentence 13 = .ok (.istore 8, 2) := by decide +kernel
theorem dX6_addSentence_15 : decode cX6_addSentence 15 = .ok (.iload 8, 2) := by decide +kernel
theorem dX6_addSentence_17 : decode cX6_addSentence 17 = .ok (.ifCond .lt 68, 3) := by decide +kernel
theorem dX6_addSentence_20 : decode cX6_addSentence 20 = .ok (.iload_n 2, 1) := by decide +kernel
theorem dX6_addSentence_21 : decode cX6_addSentence 21 = .ok (.ifCond .ne 7, 3) := by decide +kernel
theorem dX6_addSentence_24 : decode cX6_addSentence 24 = .ok (.iconst 0, 1) := by decide +kernel
theorem dX6_addSentence_25 : decode cX6_addSentence 25 = .ok (.goto 11, 3) := by decide +kernel
theorem dX6_addSentence_28 : decode cX6_addSentence 28 = .ok (.iload_n 1, 1) := by decide +kernel
theorem dX6_addSentence_29 : decode cX6_addSentence 29 = .ok (.iload 5, 2) := by decide +kernel
theorem dX6_addSentence_31 : decode cX6_addSentence 31 = .ok (.iload_n 2, 1) := by decide +kernel
theorem dX6_addSentence_32 : decode cX6_addSentence 32 = .ok (.irem, 1) := by decide +kernel
theorem dX6_addSentence_33 : decode cX6_addSentence 33 = .ok (.invokestatic 46, 3) := by decide +kernel
theorem dX6_addSentence_36 : decode cX6_addSentence 36 = .ok (.istore 9, 2) := by decide +kernel
theorem dX6_addSentence_38 : decode cX6_addSentence 38 = .ok (.iload_n 2, 1) := by decide +kernel
theorem dX6_addSentence_39 : decode cX6_addSentence 39 = .ok (.ifCond .ne 7, 3) := by decide +kernel
theorem dX6_addSentence_42 : decode cX6_addSentence 42 = .ok (.iconst 0, 1) := by decide +kernel
theorem dX6_addSentence_43 : decode cX6_addSentence 43 = .ok (.goto 7, 3) := by decide +kernel
theorem dX6_addSentence_46 : decode cX6_addSentence 46 = .ok (.iload 5, 2) := by decide +kernel
theorem dX6_addSentence_48 : decode cX6_addSentence 48 = .ok (.iload_n 2, 1) := by decide +kernel
theorem dX6_addSentence_49 : decode cX6_addSentence 49 = .ok (.idiv, 1) := by decide +kernel
theorem dX6_addSentence_50 : decode cX6_addSentence 50 = .ok (.istore 5, 2) := by decide +kernel
theorem dX6_addSentence_52 : decode cX6_addSentence 52 = .ok (.aload_n 0, 1) := by decide +kernel
theorem dX6_addSentence_53 : decode cX6_addSentence 53 = .ok (.iload 8, 2) := by decide +kernel
theorem dX6_addSentence_55 : decode cX6_addSentence 55 = .ok (.iload 9, 2) := by decide +kernel
theorem dX6_addSentence_57 : decode cX6_addSentence 57 = .ok (.invokevirtual 38, 3) := by decide +kernel
theorem dX6_addSentence_60 : decode cX6_addSentence 60 = .ok (.iload 6, 2) := by decide +kernel
theorem dX6_addSentence_62 : decode cX6_addSentence 62 = .ok (.iload 7, 2) := by decide +kernel
theorem dX6_addSentence_64 : decode cX6_addSentence 64 = .ok (.iload 9, 2) := by decide +kernel
theorem dX6_addSentence_66 : decode cX6_addSentence 66 = .ok (.iconst 1, 1) := by decide +kernel
theorem dX6_addSentence_67 : decode cX6_addSentence 67 = .ok (.iadd, 1) := by decide +kernel
theorem dX6_addSentence_68 : decode cX6_addSentence 68 = .ok (.imul, 1) := by decide +kernel
theorem dX6_addSentence_69 : decode cX6_addSentence 69 = .ok (.iadd, 1) := by decide +kernel
theorem dX6_addSentence_70 : decode cX6_addSentence 70 = .ok (.istore 6, 2) := by decide +kernel
theorem dX6_addSentence_72 : decode cX6_addSentence 72 = .ok (.iload 7, 2) := by decide +kernel
theorem dX6_addSentence_74 : decode cX6_addSentence 74 = .ok (.bipush 27, 2) := by decide +kernel
theorem dX6_addSentence_76 : decode cX6_addSentence 76 = .ok (.imul, 1) := by decide +kernel
theorem dX6_addSentence_77 : decode cX6_addSentence 77 = .ok (.istore 7, 2) := by decide +kernel
theorem dX6_addSentence_79 : decode cX6_addSentence 79 = .ok (.iinc 8 (-1), 3) := by decide +kernel
theorem dX6_addSentence_82 : decode cX6_addSentence 82 = .ok (.goto (-67), 3) := by decide +kernel
theorem dX6_addSentence_85 : decode cX6_addSentence 85 = .ok (.aload_n 0, 1) := by decide +kernel
theorem dX6_addSentence_86 : decode cX6_addSentence 86 = .ok (.iload 6, 2) := by decide +kernel
theorem dX6_addSentence_88 : decode cX6_addSentence 88 = .ok (.invokevirtual 42, 3) := by decide +kernel
theorem dX6_addSentence_91 : decode cX6_addSentence 91 = .ok (.return_, 1) := by decide +kernel
theorem dX6_letterOf_0 : decode cX6_letterOf 0 = .ok (.iload_n 1, 1) := by decide +kernel
theorem dX6_letterOf_1 : decode cX6_letterOf 1 = .ok (.istore_n 2, 1) := by decide +kernel
theorem dX6_letterOf_2 : decode cX6_letterOf 2 = .ok (.iconst 0, 1) := by decide +kernel
theorem dX6_letterOf_3 : decode cX6_letterOf 3 = .ok (.istore_n 3, 1) := by decide +kernel
theorem dX6_letterOf_4 : decode cX6_letterOf 4 = .ok (.iload_n 3, 1) := by decide +kernel
theorem dX6_letterOf_5 : decode cX6_letterOf 5 = .ok (.bipush 26, 2) := by decide +kernel
theorem dX6_letterOf_7 : decode cX6_letterOf 7 = .ok (.if_icmp .ge 27, 3) := by decide +kernel
theorem dX6_letterOf_10 : decode cX6_letterOf 10 = .ok (.iload_n 0, 1) := by decide +kernel
theorem dX6_letterOf_11 : decode cX6_letterOf 11 = .ok (.iload_n 3, 1) := by decide +kernel
theorem dX6_letterOf_12 : decode cX6_letterOf 12 = .ok (.ishr, 1) := by decide +kernel
theorem dX6_letterOf_13 : decode cX6_letterOf 13 = .ok (.iconst 1, 1) := by decide +kernel
theorem dX6_letterOf_14 : decode cX6_letterOf 14 = .ok (.iand, 1) := by decide +kernel
theorem dX6_letterOf_15 : decode cX6_letterOf 15 = .ok (.iconst 1, 1) := by decide +kernel
theorem dX6_letterOf_16 : decode cX6_letterOf 16 = .ok (.if_icmp .ne 12, 3) := by decide +kernel
theorem dX6_letterOf_19 : decode cX6_letterOf 19 = .ok (.iload_n 2, 1) := by decide +kernel
theorem dX6_letterOf_20 : decode cX6_letterOf 20 = .ok (.ifCond .ne 5, 3) := by decide +kernel
theorem dX6_letterOf_23 : decode cX6_letterOf 23 = .ok (.iload_n 3, 1) := by decide +kernel
theorem dX6_letterOf_24 : decode cX6_letterOf 24 = .ok (.ireturn, 1) := by decide +kernel
theorem dX6_letterOf_25 : decode cX6_letterOf 25 = .ok (.iinc 2 (-1), 3) := by decide +kernel
theorem dX6_letterOf_28 : decode cX6_letterOf 28 = .ok (.iinc 3 1, 3) := by decide +kernel
theorem dX6_letterOf_31 : decode cX6_letterOf 31 = .ok (.goto (-27), 3) := by decide +kernel
theorem dX6_letterOf_34 : decode cX6_letterOf 34 = .ok (.iconst 0, 1) := by decide +kernel
theorem dX6_letterOf_35 : decode cX6_letterOf 35 = .ok (.ireturn, 1) := by decide +kernel
theorem dX6_has_0 : decode cX6_has 0 = .ok (.iload_n 1, 1) := by decide +kernel
theorem dX6_has_1 : decode cX6_has 1 = .ok (.bipush 26, 2) := by decide +kernel
theorem dX6_has_3 : decode cX6_has 3 = .ok (.imul, 1) := by decide +kernel
theorem dX6_has_4 : decode cX6_has 4 = .ok (.iload_n 2, 1) := by decide +kernel
theorem dX6_has_5 : decode cX6_has 5 = .ok (.iadd, 1) := by decide +kernel
theorem dX6_has_6 : decode cX6_has 6 = .ok (.istore_n 3, 1) := by decide +kernel
theorem dX6_has_7 : decode cX6_has 7 = .ok (.aload_n 0, 1) := by decide +kernel
theorem dX6_has_8 : decode cX6_has 8 = .ok (.getfield 19, 3) := by decide +kernel
theorem dX6_has_11 : decode cX6_has 11 = .ok (.bipush 64, 2) := by decide +kernel
theorem dX6_has_13 : decode cX6_has 13 = .ok (.if_icmp .ge 31, 3) := by decide +kernel
theorem dX6_has_16 : decode cX6_has 16 = .ok (.iload_n 3, 1) := by decide +kernel
theorem dX6_has_17 : decode cX6_has 17 = .ok (.ifCond .lt 27, 3) := by decide +kernel
theorem dX6_has_20 : decode cX6_has 20 = .ok (.iload_n 3, 1) := by decide +kernel
theorem dX6_has_21 : decode cX6_has 21 = .ok (.aload_n 0, 1) := by decide +kernel
theorem dX6_has_22 : decode cX6_has 22 = .ok (.getfield 15, 3) := by decide +kernel
theorem dX6_has_25 : decode cX6_has 25 = .ok (.arraylength, 1) := by decide +kernel
theorem dX6_has_26 : decode cX6_has 26 = .ok (.if_icmp .ge 18, 3) := by decide +kernel
theorem dX6_has_29 : decode cX6_has 29 = .ok (.aload_n 0, 1) := by decide +kernel
theorem dX6_has_30 : decode cX6_has 30 = .ok (.getfield 15, 3) := by decide +kernel
theorem dX6_has_33 : decode cX6_has 33 = .ok (.iload_n 3, 1) := by decide +kernel
theorem dX6_has_34 : decode cX6_has 34 = .ok (.dup2, 1) := by decide +kernel
theorem dX6_has_35 : decode cX6_has 35 = .ok (.laload, 1) := by decide +kernel
theorem dX6_has_36 : decode cX6_has 36 = .ok (.lconst 1, 1) := by decide +kernel
theorem dX6_has_37 : decode cX6_has 37 = .ok (.aload_n 0, 1) := by decide +kernel
theorem dX6_has_38 : decode cX6_has 38 = .ok (.getfield 19, 3) := by decide +kernel
theorem dX6_has_41 : decode cX6_has 41 = .ok (.lshl, 1) := by decide +kernel
theorem dX6_has_42 : decode cX6_has 42 = .ok (.lor, 1) := by decide +kernel
theorem dX6_has_43 : decode cX6_has 43 = .ok (.lastore, 1) := by decide +kernel
theorem dX6_has_44 : decode cX6_has 44 = .ok (.return_, 1) := by decide +kernel
theorem dX6_close_0 : decode cX6_close 0 = .ok (.aload_n 0, 1) := by decide +kernel
theorem dX6_close_1 : decode cX6_close 1 = .ok (.getfield 19, 3) := by decide +kernel
theorem dX6_close_4 : decode cX6_close 4 = .ok (.bipush 64, 2) := by decide +kernel
theorem dX6_close_6 : decode cX6_close 6 = .ok (.if_icmp .ge 23, 3) := by decide +kernel
theorem dX6_close_9 : decode cX6_close 9 = .ok (.aload_n 0, 1) := by decide +kernel
theorem dX6_close_10 : decode cX6_close 10 = .ok (.getfield 11, 3) := by decide +kernel
theorem dX6_close_13 : decode cX6_close 13 = .ok (.aload_n 0, 1) := by decide +kernel
theorem dX6_close_14 : decode cX6_close 14 = .ok (.getfield 19, 3) := by decide +kernel
theorem dX6_close_17 : decode cX6_close 17 = .ok (.iload_n 1, 1) := by decide +kernel
theorem dX6_close_18 : decode cX6_close 18 = .ok (.iastore, 1) := by decide +kernel
theorem dX6_close_19 : decode cX6_close 19 = .ok (.aload_n 0, 1) := by decide +kernel
theorem dX6_close_20 : decode cX6_close 20 = .ok (.dup, 1) := by decide +kernel
theorem dX6_close_21 : decode cX6_close 21 = .ok (.getfield 19, 3) := by decide +kernel
theorem dX6_close_24 : decode cX6_close 24 = .ok (.iconst 1, 1) := by decide +kernel
theorem dX6_close_25 : decode cX6_close 25 = .ok (.iadd, 1) := by decide +kernel
theorem dX6_close_26 : decode cX6_close 26 = .ok (.putfield 19, 3) := by decide +kernel
theorem dX6_close_29 : decode cX6_close 29 = .ok (.return_, 1) := by decide +kernel
theorem dX6_one_0 : decode cX6_one 0 = .ok (.aload_n 0, 1) := by decide +kernel
theorem dX6_one_1 : decode cX6_one 1 = .ok (.getfield 19, 3) := by decide +kernel
theorem dX6_one_4 : decode cX6_one 4 = .ok (.bipush 64, 2) := by decide +kernel
theorem dX6_one_6 : decode cX6_one 6 = .ok (.if_icmp .lt 9, 3) := by decide +kernel
theorem dX6_one_9 : decode cX6_one 9 = .ok (.ldc2_w 50, 3) := by decide +kernel
theorem dX6_one_12 : decode cX6_one 12 = .ok (.goto 11, 3) := by decide +kernel
theorem dX6_one_15 : decode cX6_one 15 = .ok (.lconst 1, 1) := by decide +kernel
theorem dX6_one_16 : decode cX6_one 16 = .ok (.aload_n 0, 1) := by decide +kernel
theorem dX6_one_17 : decode cX6_one 17 = .ok (.getfield 19, 3) := by decide +kernel
theorem dX6_one_20 : decode cX6_one 20 = .ok (.lshl, 1) := by decide +kernel
theorem dX6_one_21 : decode cX6_one 21 = .ok (.lconst 1, 1) := by decide +kernel
theorem dX6_one_22 : decode cX6_one 22 = .ok (.lsub, 1) := by decide +kernel
theorem dX6_one_23 : decode cX6_one 23 = .ok (.lreturn, 1) := by decide +kernel
theorem dX6_both_0 : decode cX6_both 0 = .ok (.lload_n 1, 1) := by decide +kernel
theorem dX6_both_1 : decode cX6_both 1 = .ok (.lload_n 3, 1) := by decide +kernel
theorem dX6_both_2 : decode cX6_both 2 = .ok (.land, 1) := by decide +kernel
theorem dX6_both_3 : decode cX6_both 3 = .ok (.lreturn, 1) := by decide +kernel
theorem dX6_either_0 : decode cX6_either 0 = .ok (.lload_n 1, 1) := by decide +kernel
theorem dX6_either_1 : decode cX6_either 1 = .ok (.lload_n 3, 1) := by decide +kernel
theorem dX6_either_2 : decode cX6_either 2 = .ok (.lor, 1) := by decide +kernel
theorem dX6_either_3 : decode cX6_either 3 = .ok (.lreturn, 1) := by decide +kernel
theorem dX6_placed_0 : decode cX6_placed 0 = .ok (.lload_n 2, 1) := by decide +kernel
theorem dX6_placed_1 : decode cX6_placed 1 = .ok (.lreturn, 1) := by decide +kernel
theorem dX6_letterAt_0 : decode cX6_letterAt 0 = .ok (.iload_n 1, 1) := by decide +kernel
theorem dX6_letterAt_1 : decode cX6_letterAt 1 = .ok (.bipush 26, 2) := by decide +kernel
theorem dX6_letterAt_3 : decode cX6_letterAt 3 = .ok (.imul, 1) := by decide +kernel
theorem dX6_letterAt_4 : decode cX6_letterAt 4 = .ok (.iload_n 2, 1) := by decide +kernel
theorem dX6_letterAt_5 : decode cX6_letterAt 5 = .ok (.iadd, 1) := by decide +kernel
theorem dX6_letterAt_6 : decode cX6_letterAt 6 = .ok (.istore_n 3, 1) := by decide +kernel
theorem dX6_letterAt_7 : decode cX6_letterAt 7 = .ok (.iload_n 3, 1) := by decide +kernel
theorem dX6_letterAt_8 : decode cX6_letterAt 8 = .ok (.ifCond .lt 12, 3) := by decide +kernel
theorem dX6_letterAt_11 : decode cX6_letterAt 11 = .ok (.iload_n 3, 1) := by decide +kernel
theorem dX6_letterAt_12 : decode cX6_letterAt 12 = .ok (.aload_n 0, 1) := by decide +kernel
theorem dX6_letterAt_13 : decode cX6_letterAt 13 = .ok (.getfield 15, 3) := by decide +kernel
theorem dX6_letterAt_16 : decode cX6_letterAt 16 = .ok (.arraylength, 1) := by decide +kernel
theorem dX6_letterAt_17 : decode cX6_letterAt 17 = .ok (.if_icmp .lt 7, 3) := by decide +kernel
theorem dX6_letterAt_20 : decode cX6_letterAt 20 = .ok (.lconst 0, 1) := by decide +kernel
theorem dX6_letterAt_21 : decode cX6_letterAt 21 = .ok (.goto 9, 3) := by decide +kernel
theorem dX6_letterAt_24 : decode cX6_letterAt 24 = .ok (.aload_n 0, 1) := by decide +kernel
theorem dX6_letterAt_25 : decode cX6_letterAt 25 = .ok (.getfield 15, 3) := by decide +kernel
theorem dX6_letterAt_28 : decode cX6_letterAt 28 = .ok (.iload_n 3, 1) := by decide +kernel
theorem dX6_letterAt_29 : decode cX6_letterAt 29 = .ok (.laload, 1) := by decide +kernel
theorem dX6_letterAt_30 : decode cX6_letterAt 30 = .ok (.lreturn, 1) := by decide +kernel
theorem dX7_init_0 : decode cX7_init 0 = .ok (.aload_n 0, 1) := by decide +kernel
theorem dX7_init_1 : decode cX7_init 1 = .ok (.invokespecial 3, 3) := by decide +kernel
theorem dX7_init_4 : decode cX7_init 4 = .ok (.aload_n 0, 1) := by decide +kernel
theorem dX7_init_5 : decode cX7_init 5 = .ok (.new 9, 3) := by decide +kernel
theorem dX7_init_8 : decode cX7_init 8 = .ok (.dup, 1) := by decide +kernel
theorem dX7_init_9 : decode cX7_init 9 = .ok (.iconst 0, 1) := by decide +kernel
theorem dX7_init_10 : decode cX7_init 10 = .ok (.invokespecial 11, 3) := by decide +kernel
theorem dX7_init_13 : decode cX7_init 13 = .ok (.putfield 14, 3) := by decide +kernel
theorem dX7_init_16 : decode cX7_init 16 = .ok (.aload_n 0, 1) := by decide +kernel
theorem dX7_init_17 : decode cX7_init 17 = .ok (.bipush 40, 2) := by decide +kernel
theorem dX7_init_19 : decode cX7_init 19 = .ok (.newarray .int, 2) := by decide +kernel
theorem dX7_init_21 : decode cX7_init 21 = .ok (.putfield 20, 3) := by decide +kernel
theorem dX7_init_24 : decode cX7_init 24 = .ok (.aload_n 0, 1) := by decide +kernel
theorem dX7_init_25 : decode cX7_init 25 = .ok (.bipush 40, 2) := by decide +kernel
theorem dX7_init_27 : decode cX7_init 27 = .ok (.newarray .int, 2) := by decide +kernel
theorem dX7_init_29 : decode cX7_init 29 = .ok (.putfield 24, 3) := by decide +kernel
theorem dX7_init_32 : decode cX7_init 32 = .ok (.aload_n 0, 1) := by decide +kernel
theorem dX7_init_33 : decode cX7_init 33 = .ok (.bipush 40, 2) := by decide +kernel
theorem dX7_init_35 : decode cX7_init 35 = .ok (.newarray .int, 2) := by decide +kernel
theorem dX7_init_37 : decode cX7_init 37 = .ok (.putfield 27, 3) := by decide +kernel
theorem dX7_init_40 : decode cX7_init 40 = .ok (.return_, 1) := by decide +kernel
theorem dX7_readText_0 : decode cX7_readText 0 = .ok (.aload_n 0, 1) := by decide +kernel
theorem dX7_readText_1 : decode cX7_readText 1 = .ok (.aload_n 1, 1) := by decide +kernel
theorem dX7_readText_2 : decode cX7_readText 2 = .ok (.putfield 14, 3) := by decide +kernel
theorem dX7_readText_5 : decode cX7_readText 5 = .ok (.aload_n 0, 1) := by decide +kernel
theorem dX7_readText_6 : decode cX7_readText 6 = .ok (.iconst 0, 1) := by decide +kernel
theorem dX7_readText_7 : decode cX7_readText 7 = .ok (.putfield 30, 3) := by decide +kernel
theorem dX7_readText_10 : decode cX7_readText 10 = .ok (.aload_n 0, 1) := by decide +kernel
theorem dX7_readText_11 : decode cX7_readText 11 = .ok (.aload_n 0, 1) := by decide +kernel
theorem dX7_readText_12 : decode cX7_readText 12 = .ok (.getfield 14, 3) := by decide +kernel
theorem dX7_readText_15 : decode cX7_readText 15 = .ok (.iconst 0, 1) := by decide +kernel
theorem dX7_readText_16 : decode cX7_readText 16 = .ok (.invokevirtual 34, 3) := by decide +kernel
theorem dX7_readText_19 : decode cX7_readText 19 = .ok (.putfield 38, 3) := by decide +kernel
theorem dX7_readText_22 : decode cX7_readText 22 = .ok (.aload_n 0, 1) := by decide +kernel
theorem dX7_readText_23 : decode cX7_readText 23 = .ok (.getfield 38, 3) := by decide +kernel
theorem dX7_readText_26 : decode cX7_readText 26 = .ok (.aload_n 0, 1) := by decide +kernel
theorem dX7_readText_27 : decode cX7_readText 27 = .ok (.getfield 14, 3) := by decide +kernel
theorem dX7_readText_30 : decode cX7_readText 30 = .ok (.getfield 41, 3) := by decide +kernel
theorem dX7_readText_33 : decode cX7_readText 33 = .ok (.if_icmp .ge 7, 3) := by decide +kernel
theorem dX7_readText_36 : decode cX7_readText 36 = .ok (.iconst 1, 1) := by decide +kernel
theorem dX7_readText_37 : decode cX7_readText 37 = .ok (.goto 4, 3) := by decide +kernel
theorem dX7_readText_40 : decode cX7_readText 40 = .ok (.iconst 0, 1) := by decide +kernel
theorem dX7_readText_41 : decode cX7_readText 41 = .ok (.istore_n 2, 1) := by decide +kernel
theorem dX7_readText_42 : decode cX7_readText 42 = .ok (.iconst 0, 1) := by decide +kernel
theorem dX7_readText_43 : decode cX7_readText 43 = .ok (.istore_n 3, 1) := by decide +kernel
theorem dX7_readText_44 : decode cX7_readText 44 = .ok (.iload_n 3, 1) := by decide +kernel
theorem dX7_readText_45 : decode cX7_readText 45 = .ok (.bipush 40, 2) := by decide +kernel
theorem dX7_readText_47 : decode cX7_readText 47 = .ok (.if_icmp .gt 49, 3) := by decide +kernel
theorem dX7_readText_50 : decode cX7_readText 50 = .ok (.iload_n 2, 1) := by decide +kernel
theorem dX7_readText_51 : decode cX7_readText 51 = .ok (.ifCond .eq 45, 3) := by decide +kernel
theorem dX7_readText_54 : decode cX7_readText 54 = .ok (.aload_n 0, 1) := by decide +kernel
theorem dX7_readText_55 : decode cX7_readText 55 = .ok (.getfield 38, 3) := by decide +kernel
theorem dX7_readText_58 : decode cX7_readText 58 = .ok (.aload_n 0, 1) := by decide +kernel
theorem dX7_readText_59 : decode cX7_readText 59 = .ok (.getfield 14, 3) := by decide +kernel
theorem dX7_readText_62 : decode cX7_readText 62 = .ok (.getfield 41, 3) := by decide +kernel
theorem dX7_readText_65 : decode cX7_readText 65 = .ok (.if_icmp .ge 31, 3) := by decide +kernel
theorem dX7_readText_68 : decode cX7_readText 68 = .ok (.aload_n 0, 1) := by decide +kernel
theorem dX7_readText_69 : decode cX7_readText 69 = .ok (.getfield 30, 3) := by decide +kernel
theorem dX7_readText_72 : decode cX7_readText 72 = .ok (.bipush 40, 2) := by decide +kernel
theorem dX7_readText_74 : decode cX7_readText 74 = .ok (.if_icmp .ge 14, 3) := by decide +kernel
theorem dX7_readText_77 : decode cX7_readText 77 = .ok (.aload_n 0, 1) := by decide +kernel
theorem dX7_readText_78 : decode cX7_readText 78 = .ok (.invokevirtual 44, 3) := by decide +kernel
theorem dX7_readText_81 : decode cX7_readText 81 = .ok (.ifCond .eq 7, 3) := by decide +kernel
theorem dX7_readText_84 : decode cX7_readText 84 = .ok (.iconst 1, 1) := by decide +kernel
theorem dX7_readText_85 : decode cX7_readText 85 = .ok (.goto 4, 3) := by decide +kernel
theorem dX7_readText_88 : decode cX7_readText 88 = .ok (.iconst 0, 1) := by decide +kernel
theorem dX7_readText_89 : decode cX7_readText 89 = .ok (.istore_n 2, 1) := by decide +kernel
theorem dX7_readText_90 : decode cX7_readText 90 = .ok (.iinc 3 1, 3) := by decide +kernel
theorem dX7_readText_93 : decode cX7_readText 93 = .ok (.goto (-49), 3) := by decide +kernel
theorem dX7_readText_96 : decode cX7_readText 96 = .ok (.iload_n 2, 1) := by decide +kernel
theorem dX7_readText_97 : decode cX7_readText 97 = .ok (.ireturn, 1) := by decide +kernel
theorem dX7_readStep_0 : decode cX7_readStep 0 = .ok (.aload_n 0, 1) := by decide +kernel
theorem dX7_readStep_1 : decode cX7_readStep 1 = .ok (.getfield 20, 3) := by decide +kernel
theorem dX7_readStep_4 : decode cX7_readStep 4 = .ok (.aload_n 0, 1) := by decide +kernel
theorem dX7_readStep_5 : decode cX7_readStep 5 = .ok (.getfield 30, 3) := by decide +kernel
theorem dX7_readStep_8 : decode cX7_readStep 8 = .ok (.aload_n 0, 1) := by decide +kernel
theorem dX7_readStep_9 : decode cX7_readStep 9 = .ok (.invokevirtual 48, 3) := by decide +kernel
theorem dX7_readStep_12 : decode cX7_readStep 12 = .ok (.iastore, 1) := by decide +kernel
theorem dX7_readStep_13 : decode cX7_readStep 13 = .ok (.aload_n 0, 1) := by decide +kernel
theorem dX7_readStep_14 : decode cX7_readStep 14 = .ok (.getfield 24, 3) := by decide +kernel
theorem dX7_readStep_17 : decode cX7_readStep 17 = .ok (.aload_n 0, 1) := by decide +kernel
theorem dX7_readStep_18 : decode cX7_readStep 18 = .ok (.getfield 30, 3) := by decide +kernel
theorem dX7_readStep_21 : decode cX7_readStep 21 = .ok (.aload_n 0, 1) := by decide +kernel
theorem dX7_readStep_22 : decode cX7_readStep 22 = .ok (.getfield 30, 3) := by decide +kernel
theorem dX7_readStep_25 : decode cX7_readStep 25 = .ok (.ifCond .ne 7, 3) := by decide +kernel
theorem dX7_readStep_28 : decode cX7_readStep 28 = .ok (.iconst 0, 1) := by decide +kernel
theorem dX7_readStep_29 : decode cX7_readStep 29 = .ok (.goto 7, 3) := by decide +kernel
theorem dX7_readStep_32 : decode cX7_readStep 32 = .ok (.aload_n 0, 1) := by decide +kernel
theorem dX7_readStep_33 : decode cX7_readStep 33 = .ok (.invokevirtual 48, 3) := by decide +kernel
theorem dX7_readStep_36 : decode cX7_readStep 36 = .ok (.iastore, 1) := by decide +kernel
theorem dX7_readStep_37 : decode cX7_readStep 37 = .ok (.aload_n 0, 1) := by decide +kernel
theorem dX7_readStep_38 : decode cX7_readStep 38 = .ok (.getfield 27, 3) := by decide +kernel
theorem dX7_readStep_41 : decode cX7_readStep 41 = .ok (.aload_n 0, 1) := by decide +kernel
theorem dX7_readStep_42 : decode cX7_readStep 42 = .ok (.getfield 30, 3) := by decide +kernel
theorem dX7_readStep_45 : decode cX7_readStep 45 = .ok (.aload_n 0, 1) := by decide +kernel
theorem dX7_readStep_46 : decode cX7_readStep 46 = .ok (.getfield 30, 3) := by decide +kernel
theorem dX7_readStep_49 : decode cX7_readStep 49 = .ok (.ifCond .ne 7, 3) := by decide +kernel
theorem dX7_readStep_52 : decode cX7_readStep 52 = .ok (.iconst 0, 1) := by decide +kernel
theorem dX7_readStep_53 : decode cX7_readStep 53 = .ok (.goto 7, 3) := by decide +kernel
theorem dX7_readStep_56 : decode cX7_readStep 56 = .ok (.aload_n 0, 1) := by decide +kernel
theorem dX7_readStep_57 : decode cX7_readStep 57 = .ok (.invokevirtual 48, 3) := by decide +kernel
theorem dX7_readStep_60 : decode cX7_readStep 60 = .ok (.iastore, 1) := by decide +kernel
theorem dX7_readStep_61 : decode cX7_readStep 61 = .ok (.aload_n 0, 1) := by decide +kernel
theorem dX7_readStep_62 : decode cX7_readStep 62 = .ok (.getfield 20, 3) := by decide +kernel
theorem dX7_readStep_65 : decode cX7_readStep 65 = .ok (.aload_n 0, 1) := by decide +kernel
theorem dX7_readStep_66 : decode cX7_readStep 66 = .ok (.getfield 30, 3) := by decide +kernel
theorem dX7_readStep_69 : decode cX7_readStep 69 = .ok (.iaload, 1) := by decide +kernel
theorem dX7_readStep_70 : decode cX7_readStep 70 = .ok (.ifCond .lt 47, 3) := by decide +kernel
theorem dX7_readStep_73 : decode cX7_readStep 73 = .ok (.aload_n 0, 1) := by decide +kernel
theorem dX7_readStep_74 : decode cX7_readStep 74 = .ok (.getfield 24, 3) := by decide +kernel
theorem dX7_readStep_77 : decode cX7_readStep 77 = .ok (.aload_n 0, 1) := by decide +kernel
theorem dX7_readStep_78 : decode cX7_readStep 78 = .ok (.getfield 30, 3) := by decide +kernel
theorem dX7_readStep_81 : decode cX7_readStep 81 = .ok (.iaload, 1) := by decide +kernel
theorem dX7_readStep_82 : decode cX7_readStep 82 = .ok (.ifCond .lt 35, 3) := by decide +kernel
theorem dX7_readStep_85 : decode cX7_readStep 85 = .ok (.aload_n 0, 1) := by decide +kernel
theorem dX7_readStep_86 : decode cX7_readStep 86 = .ok (.getfield 27, 3) := by decide +kernel
theorem dX7_readStep_89 : decode cX7_readStep 89 = .ok (.aload_n 0, 1) := by decide +kernel
theorem dX7_readStep_90 : decode cX7_readStep 90 = .ok (.getfield 30, 3) := by decide +kernel
theorem dX7_readStep_93 : decode cX7_readStep 93 = .ok (.iaload, 1) := by decide +kernel
theorem dX7_readStep_94 : decode cX7_readStep 94 = .ok (.ifCond .lt 23, 3) := by decide +kernel
theorem dX7_readStep_97 : decode cX7_readStep 97 = .ok (.aload_n 0, 1) := by decide +kernel
theorem dX7_readStep_98 : decode cX7_readStep 98 = .ok (.getfield 14, 3) := by decide +kernel
theorem dX7_readStep_101 : decode cX7_readStep 101 = .ok (.aload_n 0, 1) := by decide +kernel
theorem dX7_readStep_102 : decode cX7_readStep 102 = .ok (.getfield 38, 3) := by decide +kernel
theorem dX7_readStep_105 : decode cX7_readStep 105 = .ok (.invokevirtual 52, 3) := by decide +kernel
theorem dX7_readStep_108 : decode cX7_readStep 108 = .ok (.bipush 59, 2) := by decide +kernel
theorem dX7_readStep_110 : decode cX7_readStep 110 = .ok (.if_icmp .ne 7, 3) := by decide +kernel
theorem dX7_readStep_113 : decode cX7_readStep 113 = .ok (.iconst 1, 1) := by decide +kernel
theorem dX7_readStep_114 : decode cX7_readStep 114 = .ok (.goto 4, 3) := by decide +kernel
theorem dX7_readStep_117 : decode cX7_readStep 117 = .ok (.iconst 0, 1) := by decide +kernel
theorem dX7_readStep_118 : decode cX7_readStep 118 = .ok (.istore_n 1, 1) := by decide +kernel
theorem dX7_readStep_119 : decode cX7_readStep 119 = .ok (.aload_n 0, 1) := by decide +kernel
theorem dX7_readStep_120 : decode cX7_readStep 120 = .ok (.aload_n 0, 1) := by decide +kernel
theorem dX7_readStep_121 : decode cX7_readStep 121 = .ok (.getfield 14, 3) := by decide +kernel
theorem dX7_readStep_124 : decode cX7_readStep 124 = .ok (.aload_n 0, 1) := by decide +kernel
theorem dX7_readStep_125 : decode cX7_readStep 125 = .ok (.getfield 38, 3) := by decide +kernel
theorem dX7_readStep_128 : decode cX7_readStep 128 = .ok (.iconst 1, 1) := by decide +kernel
theorem dX7_readStep_129 : decode cX7_readStep 129 = .ok (.iadd, 1) := by decide +kernel
theorem dX7_readStep_130 : decode cX7_readStep 130 = .ok (.invokevirtual 34, 3) := by decide +kernel
theorem dX7_readStep_133 : decode cX7_readStep 133 = .ok (.putfield 38, 3) := by decide +kernel
theorem dX7_readStep_136 : decode cX7_readStep 136 = .ok (.aload_n 0, 1) := by decide +kernel
theorem dX7_readStep_137 : decode cX7_readStep 137 = .ok (.dup, 1) := by decide +kernel
theorem dX7_readStep_138 : decode cX7_readStep 138 = .ok (.getfield 30, 3) := by decide +kernel
theorem dX7_readStep_141 : decode cX7_readStep 141 = .ok (.iconst 1, 1) := by decide +kernel
theorem dX7_readStep_142 : decode cX7_readStep 142 = .ok (.iadd, 1) := by decide +kernel
theorem dX7_readStep_143 : decode cX7_readStep 143 = .ok (.putfield 30, 3) := by decide +kernel
theorem dX7_readStep_146 : decode cX7_readStep 146 = .ok (.iload_n 1, 1) := by decide +kernel
theorem dX7_readStep_147 : decode cX7_readStep 147 = .ok (.ireturn, 1) := by decide +kernel
theorem dX7_readNumber_0 : decode cX7_readNumber 0 = .ok (.aload_n 0, 1) := by decide +kernel
theorem dX7_readNumber_1 : decode cX7_readNumber 1 = .ok (.getfield 14, 3) := by decide +kernel
theorem dX7_readNumber_4 : decode cX7_readNumber 4 = .ok (.aload_n 0, 1) := by decide +kernel
theorem dX7_readNumber_5 : decode cX7_readNumber 5 = .ok (.getfield 38, 3) := by decide +kernel
theorem dX7_readNumber_8 : decode cX7_readNumber 8 = .ok (.invokevirtual 52, 3) := by decide +kernel
theorem dX7_readNumber_11 : decode cX7_readNumber 11 = .ok (.invokestatic 54, 3) := by decide +kernel
theorem dX7_readNumber_14 : decode cX7_readNumber 14 = .ok (.ifCond .eq 7, 3) := by decide +kernel
theorem dX7_readNumber_17 : decode cX7_readNumber 17 = .ok (.iconst 0, 1) := by decide +kernel
theorem dX7_readNumber_18 : decode cX7_readNumber 18 = .ok (.goto 4, 3) := by decide +kernel
theorem dX7_readNumber_21 : decode cX7_readNumber 21 = .ok (.iconst (-1), 1) := by decide +kernel
theorem dX7_readNumber_22 : decode cX7_readNumber 22 = .ok (.istore_n 1, 1) := by decide +kernel
theorem dX7_readNumber_23 : decode cX7_readNumber 23 = .ok (.aload_n 0, 1) := by decide +kernel
theorem dX7_readNumber_24 : decode cX7_readNumber 24 = .ok (.getfield 38, 3) := by decide +kernel
theorem dX7_readNumber_27 : decode cX7_readNumber 27 = .ok (.aload_n 0, 1) := by decide +kernel
theorem dX7_readNumber_28 : decode cX7_readNumber 28 = .ok (.getfield 14, 3) := by decide +kernel
theorem dX7_readNumber_31 : decode cX7_readNumber 31 = .ok (.getfield 41, 3) := by decide +kernel
theorem dX7_readNumber_34 : decode cX7_readNumber 34 = .ok (.if_icmp .ge 58, 3) := by decide +kernel
theorem dX7_readNumber_37 : decode cX7_readNumber 37 = .ok (.aload_n 0, 1) := by decide +kernel
theorem dX7_readNumber_38 : decode cX7_readNumber 38 = .ok (.getfield 14, 3) := by decide +kernel
theorem dX7_readNumber_41 : decode cX7_readNumber 41 = .ok (.aload_n 0, 1) := by decide +kernel
theorem dX7_readNumber_42 : decode cX7_readNumber 42 = .ok (.getfield 38, 3) := by decide +kernel
theorem dX7_readNumber_45 : decode cX7_readNumber 45 = .ok (.invokevirtual 52, 3) := by decide +kernel
theorem dX7_readNumber_48 : decode cX7_readNumber 48 = .ok (.invokestatic 54, 3) := by decide +kernel
theorem dX7_readNumber_51 : decode cX7_readNumber 51 = .ok (.ifCond .eq 41, 3) := by decide +kernel
theorem dX7_readNumber_54 : decode cX7_readNumber 54 = .ok (.ldc 58, 2) := by decide +kernel
theorem dX7_readNumber_56 : decode cX7_readNumber 56 = .ok (.bipush 10, 2) := by decide +kernel
theorem dX7_readNumber_58 : decode cX7_readNumber 58 = .ok (.iload_n 1, 1) := by decide +kernel
theorem dX7_readNumber_59 : decode cX7_readNumber 59 = .ok (.imul, 1) := by decide +kernel
theorem dX7_readNumber_60 : decode cX7_readNumber 60 = .ok (.aload_n 0, 1) := by decide +kernel
theorem dX7_readNumber_61 : decode cX7_readNumber 61 = .ok (.getfield 14, 3) := by decide +kernel
theorem dX7_readNumber_64 : decode cX7_readNumber 64 = .ok (.aload_n 0, 1) := by decide +kernel
theorem dX7_readNumber_65 : decode cX7_readNumber 65 = .ok (.getfield 38, 3) := by decide +kernel
theorem dX7_readNumber_68 : decode cX7_readNumber 68 = .ok (.invokevirtual 52, 3) := by decide +kernel
theorem dX7_readNumber_71 : decode cX7_readNumber 71 = .ok (.iadd, 1) := by decide +kernel
theorem dX7_readNumber_72 : decode cX7_readNumber 72 = .ok (.bipush 48, 2) := by decide +kernel
theorem dX7_readNumber_74 : decode cX7_readNumber 74 = .ok (.isub, 1) := by decide +kernel
theorem dX7_readNumber_75 : decode cX7_readNumber 75 = .ok (.invokestatic 59, 3) := by decide +kernel
theorem dX7_readNumber_78 : decode cX7_readNumber 78 = .ok (.istore_n 1, 1) := by decide +kernel
theorem dX7_readNumber_79 : decode cX7_readNumber 79 = .ok (.aload_n 0, 1) := by decide +kernel
theorem dX7_readNumber_80 : decode cX7_readNumber 80 = .ok (.dup, 1) := by decide +kernel
theorem dX7_readNumber_81 : decode cX7_readNumber 81 = .ok (.getfield 38, 3) := by decide +kernel
theorem dX7_readNumber_84 : decode cX7_readNumber 84 = .ok (.iconst 1, 1) := by decide +kernel
theorem dX7_readNumber_85 : decode cX7_readNumber 85 = .ok (.iadd, 1) := by decide +kernel
theorem dX7_readNumber_86 : decode cX7_readNumber 86 = .ok (.putfield 38, 3) := by decide +kernel
theorem dX7_readNumber_89 : decode cX7_readNumber 89 = .ok (.goto (-66), 3) := by decide +kernel
theorem dX7_readNumber_92 : decode cX7_readNumber 92 = .ok (.aload_n 0, 1) := by decide +kernel
theorem dX7_readNumber_93 : decode cX7_readNumber 93 = .ok (.aload_n 0, 1) := by decide +kernel
theorem dX7_readNumber_94 : decode cX7_readNumber 94 = .ok (.getfield 14, 3) := by decide +kernel
theorem dX7_readNumber_97 : decode cX7_readNumber 97 = .ok (.aload_n 0, 1) := by decide +kernel
theorem dX7_readNumber_98 : decode cX7_readNumber 98 = .ok (.getfield 38, 3) := by decide +kernel
theorem dX7_readNumber_101 : decode cX7_readNumber 101 = .ok (.invokevirtual 34, 3) := by decide +kernel
theorem dX7_readNumber_104 : decode cX7_readNumber 104 = .ok (.putfield 38, 3) := by decide +kernel
theorem dX7_readNumber_107 : decode cX7_readNumber 107 = .ok (.iload_n 1, 1) := by decide +kernel
theorem dX7_readNumber_108 : decode cX7_readNumber 108 = .ok (.ireturn, 1) := by decide +kernel
theorem dX7_isDigit_0 : decode cX7_isDigit 0 = .ok (.iload_n 0, 1) := by decide +kernel
theorem dX7_isDigit_1 : decode cX7_isDigit 1 = .ok (.bipush 48, 2) := by decide +kernel
theorem dX7_isDigit_3 : decode cX7_isDigit 3 = .ok (.if_icmp .lt 13, 3) := by decide +kernel
theorem dX7_isDigit_6 : decode cX7_isDigit 6 = .ok (.iload_n 0, 1) := by decide +kernel
theorem dX7_isDigit_7 : decode cX7_isDigit 7 = .ok (.bipush 57, 2) := by decide +kernel
theorem dX7_isDigit_9 : decode cX7_isDigit 9 = .ok (.if_icmp .gt 7, 3) := by decide +kernel
theorem dX7_isDigit_12 : decode cX7_isDigit 12 = .ok (.iconst 1, 1) := by decide +kernel
theorem dX7_isDigit_13 : decode cX7_isDigit 13 = .ok (.goto 4, 3) := by decide +kernel
theorem dX7_isDigit_16 : decode cX7_isDigit 16 = .ok (.iconst 0, 1) := by decide +kernel
theorem dX7_isDigit_17 : decode cX7_isDigit 17 = .ok (.ireturn, 1) := by decide +kernel
theorem dX7_putTogether_0 : decode cX7_putTogether 0 = .ok (.aload_n 0, 1) := by decide +kernel
theorem dX7_putTogether_1 : decode cX7_putTogether 1 = .ok (.aload_n 1, 1) := by decide +kernel
theorem dX7_putTogether_2 : decode cX7_putTogether 2 = .ok (.putfield 65, 3) := by decide +kernel
theorem dX7_putTogether_5 : decode cX7_putTogether 5 = .ok (.aload_n 0, 1) := by decide +kernel
theorem dX7_putTogether_6 : decode cX7_putTogether 6 = .ok (.aload_n 2, 1) := by decide +kernel
theorem dX7_putTogether_7 : decode cX7_putTogether 7 = .ok (.putfield 69, 3) := by decide +kernel
theorem dX7_putTogether_10 : decode cX7_putTogether 10 = .ok (.aload_n 0, 1) := by decide +kernel
theorem dX7_putTogether_11 : decode cX7_putTogether 11 = .ok (.getfield 69, 3) := by decide +kernel
theorem dX7_putTogether_14 : decode cX7_putTogether 14 = .ok (.invokevirtual 73, 3) := by decide +kernel
theorem dX7_putTogether_17 : decode cX7_putTogether 17 = .ok (.iconst 0, 1) := by decide +kernel
theorem dX7_putTogether_18 : decode cX7_putTogether 18 = .ok (.istore_n 3, 1) := by decide +kernel
theorem dX7_putTogether_19 : decode cX7_putTogether 19 = .ok (.iload_n 3, 1) := by decide +kernel
theorem dX7_putTogether_20 : decode cX7_putTogether 20 = .ok (.aload_n 0, 1) := by decide +kernel
theorem dX7_putTogether_21 : decode cX7_putTogether 21 = .ok (.getfield 30, 3) := by decide +kernel
theorem dX7_putTogether_24 : decode cX7_putTogether 24 = .ok (.if_icmp .ge 64, 3) := by decide +kernel
theorem dX7_putTogether_27 : decode cX7_putTogether 27 = .ok (.aload_n 0, 1) := by decide +kernel
theorem dX7_putTogether_28 : decode cX7_putTogether 28 = .ok (.iload_n 3, 1) := by decide +kernel
theorem dX7_putTogether_29 : decode cX7_putTogether 29 = .ok (.invokevirtual 78, 3) := by decide +kernel
theorem dX7_putTogether_32 : decode cX7_putTogether 32 = .ok (.ifCond .ne 8, 3) := by decide +kernel
theorem dX7_putTogether_35 : decode cX7_putTogether 35 = .ok (.bipush (-100), 2) := by decide +kernel
theorem dX7_putTogether_37 : decode cX7_putTogether 37 = .ok (.iload_n 3, 1) := by decide +kernel
theorem dX7_putTogether_38 : decode cX7_putTogether 38 = .ok (.isub, 1) := by decide +kernel
theorem dX7_putTogether_39 : decode cX7_putTogether 39 = .ok (.ireturn, 1) := by decide +kernel
theorem dX7_putTogether_40 : decode cX7_putTogether 40 = .ok (.aload_n 0, 1) := by decide +kernel
theorem dX7_putTogether_41 : decode cX7_putTogether 41 = .ok (.getfield 69, 3) := by decide +kernel
theorem dX7_putTogether_44 : decode cX7_putTogether 44 = .ok (.aload_n 0, 1) := by decide +kernel
theorem dX7_putTogether_45 : decode cX7_putTogether 45 = .ok (.getfield 20, 3) := by decide +kernel
theorem dX7_putTogether_48 : decode cX7_putTogether 48 = .ok (.iload_n 3, 1) := by decide +kernel
theorem dX7_putTogether_49 : decode cX7_putTogether 49 = .ok (.iaload, 1) := by decide +kernel
theorem dX7_putTogether_50 : decode cX7_putTogether 50 = .ok (.iload_n 3, 1) := by decide +kernel
theorem dX7_putTogether_51 : decode cX7_putTogether 51 = .ok (.ifCond .ne 7, 3) := by decide +kernel
theorem dX7_putTogether_54 : decode cX7_putTogether 54 = .ok (.iconst (-1), 1) := by decide +kernel
theorem dX7_putTogether_55 : decode cX7_putTogether 55 = .ok (.goto 9, 3) := by decide +kernel
theorem dX7_putTogether_58 : decode cX7_putTogether 58 = .ok (.aload_n 0, 1) := by decide +kernel
theorem dX7_putTogether_59 : decode cX7_putTogether 59 = .ok (.getfield 24, 3) := by decide +kernel
theorem dX7_putTogether_62 : decode cX7_putTogether 62 = .ok (.iload_n 3, 1) := by decide +kernel
theorem dX7_putTogether_63 : decode cX7_putTogether 63 = .ok (.iaload, 1) := by decide +kernel
theorem dX7_putTogether_64 : decode cX7_putTogether 64 = .ok (.iload_n 3, 1) := by decide +kernel
theorem dX7_putTogether_65 : decode cX7_putTogether 65 = .ok (.ifCond .ne 7, 3) := by decide +kernel
theorem dX7_putTogether_68 : decode cX7_putTogether 68 = .ok (.iconst (-1), 1) := by decide +kernel
theorem dX7_putTogether_69 : decode cX7_putTogether 69 = .ok (.goto 9, 3) := by decide +kernel
theorem dX7_putTogether_72 : decode cX7_putTogether 72 = .ok (.aload_n 0, 1) := by decide +kernel
theorem dX7_putTogether_73 : decode cX7_putTogether 73 = .ok (.getfield 27, 3) := by decide +kernel
theorem dX7_putTogether_76 : decode cX7_putTogether 76 = .ok (.iload_n 3, 1) := by decide +kernel
theorem dX7_putTogether_77 : decode cX7_putTogether 77 = .ok (.iaload, 1) := by decide +kernel
theorem dX7_putTogether_78 : decode cX7_putTogether 78 = .ok (.invokevirtual 81, 3) := by decide +kernel
theorem dX7_putTogether_81 : decode cX7_putTogether 81 = .ok (.pop, 1) := by decide +kernel
theorem dX7_putTogether_82 : decode cX7_putTogether 82 = .ok (.iinc 3 1, 3) := by decide +kernel
theorem dX7_putTogether_85 : decode cX7_putTogether 85 = .ok (.goto (-66), 3) := by decide +kernel
theorem dX7_putTogether_88 : decode cX7_putTogether 88 = .ok (.aload_n 0, 1) := by decide +kernel
theorem dX7_putTogether_89 : decode cX7_putTogether 89 = .ok (.iconst 4, 1) := by decide +kernel
theorem dX7_putTogether_90 : decode cX7_putTogether 90 = .ok (.iconst 0, 1) := by decide +kernel
theorem dX7_putTogether_91 : decode cX7_putTogether 91 = .ok (.invokevirtual 85, 3) := by decide +kernel
theorem dX7_putTogether_94 : decode cX7_putTogether 94 = .ok (.istore_n 3, 1) := by decide +kernel
theorem dX7_putTogether_95 : decode cX7_putTogether 95 = .ok (.iload_n 3, 1) := by decide +kernel
theorem dX7_putTogether_96 : decode cX7_putTogether 96 = .ok (.iconst (-1), 1) := by decide +kernel
theorem dX7_putTogether_97 : decode cX7_putTogether 97 = .ok (.if_icmp .eq 9, 3) := by decide +kernel
theorem dX7_putTogether_100 : decode cX7_putTogether 100 = .ok (.sipush (-200), 3) := by decide +kernel
theorem dX7_putTogether_103 : decode cX7_putTogether 103 = .ok (.iload_n 3, 1) := by decide +kernel
theorem dX7_putTogether_104 : decode cX7_putTogether 104 = .ok (.isub, 1) := by decide +kernel
theorem dX7_putTogether_105 : decode cX7_putTogether 105 = .ok (.ireturn, 1) := by decide +kernel
theorem dX7_putTogether_106 : decode cX7_putTogether 106 = .ok (.aload_n 0, 1) := by decide +kernel
theorem dX7_putTogether_107 : decode cX7_putTogether 107 = .ok (.iconst 0, 1) := by decide +kernel
theorem dX7_putTogether_108 : decode cX7_putTogether 108 = .ok (.iconst 2, 1) := by decide +kernel
theorem dX7_putTogether_109 : decode cX7_putTogether 109 = .ok (.invokevirtual 85, 3) := by decide +kernel
theorem dX7_putTogether_112 : decode cX7_putTogether 112 = .ok (.istore_n 3, 1) := by decide +kernel
theorem dX7_putTogether_113 : decode cX7_putTogether 113 = .ok (.iload_n 3, 1) := by decide +kernel
theorem dX7_putTogether_114 : decode cX7_putTogether 114 = .ok (.iconst (-1), 1) := by decide +kernel
theorem dX7_putTogether_115 : decode cX7_putTogether 115 = .ok (.if_icmp .ne 7, 3) := by decide +kernel
theorem dX7_putTogether_118 : decode cX7_putTogether 118 = .ok (.iconst 0, 1) := by decide +kernel
theorem dX7_putTogether_119 : decode cX7_putTogether 119 = .ok (.goto 8, 3) := by decide +kernel
theorem dX7_putTogether_122 : decode cX7_putTogether 122 = .ok (.sipush (-300), 3) := by decide +kernel
theorem dX7_putTogether_125 : decode cX7_putTogether 125 = .ok (.iload_n 3, 1) := by decide +kernel
theorem dX7_putTogether_126 : decode cX7_putTogether 126 = .ok (.isub, 1) := by decide +kernel
theorem dX7_putTogether_127 : decode cX7_putTogether 127 = .ok (.ireturn, 1) := by decide +kernel
theorem dX7_canBeThere_0 : decode cX7_canBeThere 0 = .ok (.aload_n 0, 1) := by decide +kernel
theorem dX7_canBeThere_1 : decode cX7_canBeThere 1 = .ok (.getfield 65, 3) := by decide +kernel
theorem dX7_canBeThere_4 : decode cX7_canBeThere 4 = .ok (.aload_n 0, 1) := by decide +kernel
theorem dX7_canBeThere_5 : decode cX7_canBeThere 5 = .ok (.getfield 20, 3) := by decide +kernel
theorem dX7_canBeThere_8 : decode cX7_canBeThere 8 = .ok (.iload_n 1, 1) := by decide +kernel
theorem dX7_canBeThere_9 : decode cX7_canBeThere 9 = .ok (.iaload, 1) := by decide +kernel
theorem dX7_canBeThere_10 : decode cX7_canBeThere 10 = .ok (.invokevirtual 88, 3) := by decide +kernel
theorem dX7_canBeThere_13 : decode cX7_canBeThere 13 = .ok (.ifCond .eq 23, 3) := by decide +kernel
theorem dX7_canBeThere_16 : decode cX7_canBeThere 16 = .ok (.aload_n 0, 1) := by decide +kernel
theorem dX7_canBeThere_17 : decode cX7_canBeThere 17 = .ok (.getfield 65, 3) := by decide +kernel
theorem dX7_canBeThere_20 : decode cX7_canBeThere 20 = .ok (.getfield 93, 3) := by decide +kernel
theorem dX7_canBeThere_23 : decode cX7_canBeThere 23 = .ok (.aload_n 0, 1) := by decide +kernel
theorem dX7_canBeThere_24 : decode cX7_canBeThere 24 = .ok (.getfield 20, 3) := by decide +kernel
theorem dX7_canBeThere_27 : decode cX7_canBeThere 27 = .ok (.iload_n 1, 1) := by decide +kernel
theorem dX7_canBeThere_28 : decode cX7_canBeThere 28 = .ok (.iaload, 1) := by decide +kernel
theorem dX7_canBeThere_29 : decode cX7_canBeThere 29 = .ok (.ishr, 1) := by decide +kernel
theorem dX7_canBeThere_30 : decode cX7_canBeThere 30 = .ok (.iconst 1, 1) := by decide +kernel
theorem dX7_canBeThere_31 : decode cX7_canBeThere 31 = .ok (.iand, 1) := by decide +kernel
theorem dX7_canBeThere_32 : decode cX7_canBeThere 32 = .ok (.iconst 1, 1) := by decide +kernel
theorem dX7_canBeThere_33 : decode cX7_canBeThere 33 = .ok (.if_icmp .ne 5, 3) := by decide +kernel
theorem dX7_canBeThere_36 : decode cX7_canBeThere 36 = .ok (.iconst 0, 1) := by decide +kernel
theorem dX7_canBeThere_37 : decode cX7_canBeThere 37 = .ok (.ireturn, 1) := by decide +kernel
theorem dX7_canBeThere_38 : decode cX7_canBeThere 38 = .ok (.iload_n 1, 1) := by decide +kernel
theorem dX7_canBeThere_39 : decode cX7_canBeThere 39 = .ok (.ifCond .ne 29, 3) := by decide +kernel
theorem dX7_canBeThere_42 : decode cX7_canBeThere 42 = .ok (.aload_n 0, 1) := by decide +kernel
theorem dX7_canBeThere_43 : decode cX7_canBeThere 43 = .ok (.getfield 65, 3) := by decide +kernel
theorem dX7_canBeThere_46 : decode cX7_canBeThere 46 = .ok (.invokevirtual 96, 3) := by decide +kernel
theorem dX7_canBeThere_49 : decode cX7_canBeThere 49 = .ok (.aload_n 0, 1) := by decide +kernel
theorem dX7_canBeThere_50 : decode cX7_canBeThere 50 = .ok (.getfield 20, 3) := by decide +kernel
theorem dX7_canBeThere_53 : decode cX7_canBeThere 53 = .ok (.iload_n 1, 1) := by decide +kernel
theorem dX7_canBeThere_54 : decode cX7_canBeThere 54 = .ok (.iaload, 1) := by decide +kernel
theorem dX7_canBeThere_55 : decode cX7_canBeThere 55 = .ok (.ishr, 1) := by decide +kernel
theorem dX7_canBeThere_56 : decode cX7_canBeThere 56 = .ok (.iconst 1, 1) := by decide +kernel
theorem dX7_canBeThere_57 : decode cX7_canBeThere 57 = .ok (.iand, 1) := by decide +kernel
theorem dX7_canBeThere_58 : decode cX7_canBeThere 58 = .ok (.iconst 1, 1) := by decide +kernel
theorem dX7_canBeThere_59 : decode cX7_canBeThere 59 = .ok (.if_icmp .ne 7, 3) := by decide +kernel
theorem dX7_canBeThere_62 : decode cX7_canBeThere 62 = .ok (.iconst 1, 1) := by decide +kernel
theorem dX7_canBeThere_63 : decode cX7_canBeThere 63 = .ok (.goto 4, 3) := by decide +kernel
theorem dX7_canBeThere_66 : decode cX7_canBeThere 66 = .ok (.iconst 0, 1) := by decide +kernel
theorem dX7_canBeThere_67 : decode cX7_canBeThere 67 = .ok (.ireturn, 1) := by decide +kernel
theorem dX7_canBeThere_68 : decode cX7_canBeThere 68 = .ok (.aload_n 0, 1) := by decide +kernel
theorem dX7_canBeThere_69 : decode cX7_canBeThere 69 = .ok (.getfield 24, 3) := by decide +kernel
theorem dX7_canBeThere_72 : decode cX7_canBeThere 72 = .ok (.iload_n 1, 1) := by decide +kernel
theorem dX7_canBeThere_73 : decode cX7_canBeThere 73 = .ok (.iaload, 1) := by decide +kernel
theorem dX7_canBeThere_74 : decode cX7_canBeThere 74 = .ok (.istore_n 2, 1) := by decide +kernel
theorem dX7_canBeThere_75 : decode cX7_canBeThere 75 = .ok (.iload_n 2, 1) := by decide +kernel
theorem dX7_canBeThere_76 : decode cX7_canBeThere 76 = .ok (.iload_n 1, 1) := by decide +kernel
theorem dX7_canBeThere_77 : decode cX7_canBeThere 77 = .ok (.if_icmp .ge 25, 3) := by decide +kernel
theorem dX7_canBeThere_80 : decode cX7_canBeThere 80 = .ok (.aload_n 0, 1) := by decide +kernel
theorem dX7_canBeThere_81 : decode cX7_canBeThere 81 = .ok (.getfield 65, 3) := by decide +kernel
theorem dX7_canBeThere_84 : decode cX7_canBeThere 84 = .ok (.aload_n 0, 1) := by decide +kernel
theorem dX7_canBeThere_85 : decode cX7_canBeThere 85 = .ok (.getfield 20, 3) := by decide +kernel
theorem dX7_canBeThere_88 : decode cX7_canBeThere 88 = .ok (.iload_n 2, 1) := by decide +kernel
theorem dX7_canBeThere_89 : decode cX7_canBeThere 89 = .ok (.iaload, 1) := by decide +kernel
theorem dX7_canBeThere_90 : decode cX7_canBeThere 90 = .ok (.aload_n 0, 1) := by decide +kernel
theorem dX7_canBeThere_91 : decode cX7_canBeThere 91 = .ok (.getfield 27, 3) := by decide +kernel
theorem dX7_canBeThere_94 : decode cX7_canBeThere 94 = .ok (.iload_n 1, 1) := by decide +kernel
theorem dX7_canBeThere_95 : decode cX7_canBeThere 95 = .ok (.iaload, 1) := by decide +kernel
theorem dX7_canBeThere_96 : decode cX7_canBeThere 96 = .ok (.invokevirtual 99, 3) := by decide +kernel
theorem dX7_canBeThere_99 : decode cX7_canBeThere 99 = .ok (.ifCond .ne 5, 3) := by decide +kernel
theorem dX7_canBeThere_102 : decode cX7_canBeThere 102 = .ok (.iconst 0, 1) := by decide +kernel
theorem dX7_canBeThere_103 : decode cX7_canBeThere 103 = .ok (.ireturn, 1) := by decide +kernel
theorem dX7_canBeThere_104 : decode cX7_canBeThere 104 = .ok (.aload_n 0, 1) := by decide +kernel
theorem dX7_canBeThere_105 : decode cX7_canBeThere 105 = .ok (.getfield 65, 3) := by decide +kernel
theorem dX7_canBeThere_108 : decode cX7_canBeThere 108 = .ok (.getfield 103, 3) := by decide +kernel
theorem dX7_canBeThere_111 : decode cX7_canBeThere 111 = .ok (.aload_n 0, 1) := by decide +kernel
theorem dX7_canBeThere_112 : decode cX7_canBeThere 112 = .ok (.getfield 20, 3) := by decide +kernel
theorem dX7_canBeThere_115 : decode cX7_canBeThere 115 = .ok (.iload_n 2, 1) := by decide +kernel
theorem dX7_canBeThere_116 : decode cX7_canBeThere 116 = .ok (.iaload, 1) := by decide +kernel
theorem dX7_canBeThere_117 : decode cX7_canBeThere 117 = .ok (.iaload, 1) := by decide +kernel
theorem dX7_canBeThere_118 : decode cX7_canBeThere 118 = .ok (.aload_n 0, 1) := by decide +kernel
theorem dX7_canBeThere_119 : decode cX7_canBeThere 119 = .ok (.getfield 27, 3) := by decide +kernel
theorem dX7_canBeThere_122 : decode cX7_canBeThere 122 = .ok (.iload_n 1, 1) := by decide +kernel
theorem dX7_canBeThere_123 : decode cX7_canBeThere 123 = .ok (.iaload, 1) := by decide +kernel
theorem dX7_canBeThere_124 : decode cX7_canBeThere 124 = .ok (.iadd, 1) := by decide +kernel
theorem dX7_canBeThere_125 : decode cX7_canBeThere 125 = .ok (.istore_n 3, 1) := by decide +kernel
theorem dX7_canBeThere_126 : decode cX7_canBeThere 126 = .ok (.aload_n 0, 1) := by decide +kernel
theorem dX7_canBeThere_127 : decode cX7_canBeThere 127 = .ok (.getfield 69, 3) := by decide +kernel
theorem dX7_canBeThere_130 : decode cX7_canBeThere 130 = .ok (.getfield 106, 3) := by decide +kernel
theorem dX7_canBeThere_133 : decode cX7_canBeThere 133 = .ok (.iload_n 2, 1) := by decide +kernel
theorem dX7_canBeThere_134 : decode cX7_canBeThere 134 = .ok (.bipush 12, 2) := by decide +kernel
theorem dX7_canBeThere_136 : decode cX7_canBeThere 136 = .ok (.imul, 1) := by decide +kernel
theorem dX7_canBeThere_137 : decode cX7_canBeThere 137 = .ok (.aload_n 0, 1) := by decide +kernel
theorem dX7_canBeThere_138 : decode cX7_canBeThere 138 = .ok (.getfield 27, 3) := by decide +kernel
theorem dX7_canBeThere_141 : decode cX7_canBeThere 141 = .ok (.iload_n 1, 1) := by decide +kernel
theorem dX7_canBeThere_142 : decode cX7_canBeThere 142 = .ok (.iaload, 1) := by decide +kernel
theorem dX7_canBeThere_143 : decode cX7_canBeThere 143 = .ok (.iadd, 1) := by decide +kernel
theorem dX7_canBeThere_144 : decode cX7_canBeThere 144 = .ok (.iaload, 1) := by decide +kernel
theorem dX7_canBeThere_145 : decode cX7_canBeThere 145 = .ok (.iconst (-1), 1) := by decide +kernel
theorem dX7_canBeThere_146 : decode cX7_canBeThere 146 = .ok (.if_icmp .eq 5, 3) := by decide +kernel
theorem dX7_canBeThere_149 : decode cX7_canBeThere 149 = .ok (.iconst 0, 1) := by decide +kernel
theorem dX7_canBeThere_150 : decode cX7_canBeThere 150 = .ok (.ireturn, 1) := by decide +kernel
theorem dX7_canBeThere_151 : decode cX7_canBeThere 151 = .ok (.aload_n 0, 1) := by decide +kernel
theorem dX7_canBeThere_152 : decode cX7_canBeThere 152 = .ok (.aload_n 0, 1) := by decide +kernel
theorem dX7_canBeThere_153 : decode cX7_canBeThere 153 = .ok (.getfield 20, 3) := by decide +kernel
theorem dX7_canBeThere_156 : decode cX7_canBeThere 156 = .ok (.iload_n 1, 1) := by decide +kernel
theorem dX7_canBeThere_157 : decode cX7_canBeThere 157 = .ok (.iaload, 1) := by decide +kernel
theorem dX7_canBeThere_158 : decode cX7_canBeThere 158 = .ok (.iload_n 3, 1) := by decide +kernel
theorem dX7_canBeThere_159 : decode cX7_canBeThere 159 = .ok (.invokevirtual 109, 3) := by decide +kernel
theorem dX7_canBeThere_162 : decode cX7_canBeThere 162 = .ok (.ireturn, 1) := by decide +kernel
theorem dX7_fits_0 : decode cX7_fits 0 = .ok (.aload_n 0, 1) := by decide +kernel
theorem dX7_fits_1 : decode cX7_fits 1 = .ok (.getfield 65, 3) := by decide +kernel
theorem dX7_fits_4 : decode cX7_fits 4 = .ok (.getfield 112, 3) := by decide +kernel
theorem dX7_fits_7 : decode cX7_fits 7 = .ok (.iload_n 2, 1) := by decide +kernel
theorem dX7_fits_8 : decode cX7_fits 8 = .ok (.iaload, 1) := by decide +kernel
theorem dX7_fits_9 : decode cX7_fits 9 = .ok (.istore_n 3, 1) := by decide +kernel
theorem dX7_fits_10 : decode cX7_fits 10 = .ok (.aload_n 0, 1) := by decide +kernel
theorem dX7_fits_11 : decode cX7_fits 11 = .ok (.getfield 65, 3) := by decide +kernel
theorem dX7_fits_14 : decode cX7_fits 14 = .ok (.getfield 115, 3) := by decide +kernel
theorem dX7_fits_17 : decode cX7_fits 17 = .ok (.iload_n 2, 1) := by decide +kernel
theorem dX7_fits_18 : decode cX7_fits 18 = .ok (.iaload, 1) := by decide +kernel
theorem dX7_fits_19 : decode cX7_fits 19 = .ok (.ifCond .ne 39, 3) := by decide +kernel
theorem dX7_fits_22 : decode cX7_fits 22 = .ok (.aload_n 0, 1) := by decide +kernel
theorem dX7_fits_23 : decode cX7_fits 23 = .ok (.getfield 65, 3) := by decide +kernel
theorem dX7_fits_26 : decode cX7_fits 26 = .ok (.getfield 118, 3) := by decide +kernel
theorem dX7_fits_29 : decode cX7_fits 29 = .ok (.iload_n 2, 1) := by decide +kernel
theorem dX7_fits_30 : decode cX7_fits 30 = .ok (.iaload, 1) := by decide +kernel
theorem dX7_fits_31 : decode cX7_fits 31 = .ok (.iconst 1, 1) := by decide +kernel
theorem dX7_fits_32 : decode cX7_fits 32 = .ok (.if_icmp .eq 24, 3) := by decide +kernel
theorem dX7_fits_35 : decode cX7_fits 35 = .ok (.aload_n 0, 1) := by decide +kernel
theorem dX7_fits_36 : decode cX7_fits 36 = .ok (.getfield 65, 3) := by decide +kernel
theorem dX7_fits_39 : decode cX7_fits 39 = .ok (.getfield 121, 3) := by decide +kernel
theorem dX7_fits_42 : decode cX7_fits 42 = .ok (.iload_n 3, 1) := by decide +kernel
theorem dX7_fits_43 : decode cX7_fits 43 = .ok (.iaload, 1) := by decide +kernel
theorem dX7_fits_44 : decode cX7_fits 44 = .ok (.iload_n 1, 1) := by decide +kernel
theorem dX7_fits_45 : decode cX7_fits 45 = .ok (.ishr, 1) := by decide +kernel
theorem dX7_fits_46 : decode cX7_fits 46 = .ok (.iconst 1, 1) := by decide +kernel
theorem dX7_fits_47 : decode cX7_fits 47 = .ok (.iand, 1) := by decide +kernel
theorem dX7_fits_48 : decode cX7_fits 48 = .ok (.iconst 1, 1) := by decide +kernel
theorem dX7_fits_49 : decode cX7_fits 49 = .ok (.if_icmp .ne 7, 3) := by decide +kernel
theorem dX7_fits_52 : decode cX7_fits 52 = .ok (.iconst 1, 1) := by decide +kernel
theorem dX7_fits_53 : decode cX7_fits 53 = .ok (.goto 4, 3) := by decide +kernel
theorem dX7_fits_56 : decode cX7_fits 56 = .ok (.iconst 0, 1) := by decide +kernel
theorem dX7_fits_57 : decode cX7_fits 57 = .ok (.ireturn, 1) := by decide +kernel
theorem dX7_fits_58 : decode cX7_fits 58 = .ok (.aload_n 0, 1) := by decide +kernel
theorem dX7_fits_59 : decode cX7_fits 59 = .ok (.getfield 65, 3) := by decide +kernel
theorem dX7_fits_62 : decode cX7_fits 62 = .ok (.getfield 115, 3) := by decide +kernel
theorem dX7_fits_65 : decode cX7_fits 65 = .ok (.iload_n 2, 1) := by decide +kernel
theorem dX7_fits_66 : decode cX7_fits 66 = .ok (.iaload, 1) := by decide +kernel
theorem dX7_fits_67 : decode cX7_fits 67 = .ok (.iconst 4, 1) := by decide +kernel
theorem dX7_fits_68 : decode cX7_fits 68 = .ok (.if_icmp .ne 24, 3) := by decide +kernel
theorem dX7_fits_71 : decode cX7_fits 71 = .ok (.aload_n 0, 1) := by decide +kernel
theorem dX7_fits_72 : decode cX7_fits 72 = .ok (.getfield 65, 3) := by decide +kernel
theorem dX7_fits_75 : decode cX7_fits 75 = .ok (.getfield 124, 3) := by decide +kernel
theorem dX7_fits_78 : decode cX7_fits 78 = .ok (.iload_n 3, 1) := by decide +kernel
theorem dX7_fits_79 : decode cX7_fits 79 = .ok (.iaload, 1) := by decide +kernel
theorem dX7_fits_80 : decode cX7_fits 80 = .ok (.iload_n 1, 1) := by decide +kernel
theorem dX7_fits_81 : decode cX7_fits 81 = .ok (.ishr, 1) := by decide +kernel
theorem dX7_fits_82 : decode cX7_fits 82 = .ok (.iconst 1, 1) := by decide +kernel
theorem dX7_fits_83 : decode cX7_fits 83 = .ok (.iand, 1) := by decide +kernel
theorem dX7_fits_84 : decode cX7_fits 84 = .ok (.iconst 1, 1) := by decide +kernel
theorem dX7_fits_85 : decode cX7_fits 85 = .ok (.if_icmp .ne 7, 3) := by decide +kernel
theorem dX7_fits_88 : decode cX7_fits 88 = .ok (.iconst 1, 1) := by decide +kernel
theorem dX7_fits_89 : decode cX7_fits 89 = .ok (.goto 4, 3) := by decide +kernel
theorem dX7_fits_92 : decode cX7_fits 92 = .ok (.iconst 0, 1) := by decide +kernel
theorem dX7_fits_93 : decode cX7_fits 93 = .ok (.ireturn, 1) := by decide +kernel
theorem dX7_firstLacking_0 : decode cX7_firstLacking 0 = .ok (.iconst 0, 1) := by decide +kernel
theorem dX7_firstLacking_1 : decode cX7_firstLacking 1 = .ok (.istore_n 3, 1) := by decide +kernel
theorem dX7_firstLacking_2 : decode cX7_firstLacking 2 = .ok (.iload_n 3, 1) := by decide +kernel
theorem dX7_firstLacking_3 : decode cX7_firstLacking 3 = .ok (.aload_n 0, 1) := by decide +kernel
theorem dX7_firstLacking_4 : decode cX7_firstLacking 4 = .ok (.getfield 30, 3) := by decide +kernel
theorem dX7_firstLacking_7 : decode cX7_firstLacking 7 = .ok (.if_icmp .ge 119, 3) := by decide +kernel
theorem dX7_firstLacking_10 : decode cX7_firstLacking 10 = .ok (.aload_n 0, 1) := by decide +kernel
theorem dX7_firstLacking_11 : decode cX7_firstLacking 11 = .ok (.getfield 65, 3) := by decide +kernel
theorem dX7_firstLacking_14 : decode cX7_firstLacking 14 = .ok (.getfield 103, 3) := by decide +kernel
theorem dX7_firstLacking_17 : decode cX7_firstLacking 17 = .ok (.aload_n 0, 1) := by decide +kernel
theorem dX7_firstLacking_18 : decode cX7_firstLacking 18 = .ok (.getfield 20, 3) := by decide +kernel
theorem dX7_firstLacking_21 : decode cX7_firstLacking 21 = .ok (.iload_n 3, 1) := by decide +kernel
theorem dX7_firstLacking_22 : decode cX7_firstLacking 22 = .ok (.iaload, 1) := by decide +kernel
theorem dX7_firstLacking_23 : decode cX7_firstLacking 23 = .ok (.iaload, 1) := by decide +kernel
theorem dX7_firstLacking_24 : decode cX7_firstLacking 24 = .ok (.istore 4, 2) := by decide +kernel
theorem dX7_firstLacking_26 : decode cX7_firstLacking 26 = .ok (.iconst 0, 1) := by decide +kernel
theorem dX7_firstLacking_27 : decode cX7_firstLacking 27 = .ok (.istore 5, 2) := by decide +kernel
theorem dX7_firstLacking_29 : decode cX7_firstLacking 29 = .ok (.iload 5, 2) := by decide +kernel
theorem dX7_firstLacking_31 : decode cX7_firstLacking 31 = .ok (.aload_n 0, 1) := by decide +kernel
theorem dX7_firstLacking_32 : decode cX7_firstLacking 32 = .ok (.getfield 65, 3) := by decide +kernel
theorem dX7_firstLacking_35 : decode cX7_firstLacking 35 = .ok (.aload_n 0, 1) := by decide +kernel
theorem dX7_firstLacking_36 : decode cX7_firstLacking 36 = .ok (.getfield 20, 3) := by decide +kernel
theorem dX7_firstLacking_39 : decode cX7_firstLacking 39 = .ok (.iload_n 3, 1) := by decide +kernel
theorem dX7_firstLacking_40 : decode cX7_firstLacking 40 = .ok (.iaload, 1) := by decide +kernel
theorem dX7_firstLacking_41 : decode cX7_firstLacking 41 = .ok (.invokevirtual 127, 3) := by decide +kernel
theorem dX7_firstLacking_44 : decode cX7_firstLacking 44 = .ok (.if_icmp .ge 76, 3) := by decide +kernel
theorem dX7_firstLacking_47 : decode cX7_firstLacking 47 = .ok (.aload_n 0, 1) := by decide +kernel
theorem dX7_firstLacking_48 : decode cX7_firstLacking 48 = .ok (.getfield 65, 3) := by decide +kernel
theorem dX7_firstLacking_51 : decode cX7_firstLacking 51 = .ok (.getfield 115, 3) := by decide +kernel
theorem dX7_firstLacking_54 : decode cX7_firstLacking 54 = .ok (.iload 4, 2) := by decide +kernel
theorem dX7_firstLacking_56 : decode cX7_firstLacking 56 = .ok (.iload 5, 2) := by decide +kernel
theorem dX7_firstLacking_58 : decode cX7_firstLacking 58 = .ok (.iadd, 1) := by decide +kernel
theorem dX7_firstLacking_59 : decode cX7_firstLacking 59 = .ok (.iaload, 1) := by decide +kernel
theorem dX7_firstLacking_60 : decode cX7_firstLacking 60 = .ok (.iload_n 1, 1) := by decide +kernel
theorem dX7_firstLacking_61 : decode cX7_firstLacking 61 = .ok (.if_icmp .ne 24, 3) := by decide +kernel
theorem dX7_firstLacking_64 : decode cX7_firstLacking 64 = .ok (.aload_n 0, 1) := by decide +kernel
theorem dX7_firstLacking_65 : decode cX7_firstLacking 65 = .ok (.getfield 65, 3) := by decide +kernel
theorem dX7_firstLacking_68 : decode cX7_firstLacking 68 = .ok (.getfield 118, 3) := by decide +kernel
theorem dX7_firstLacking_71 : decode cX7_firstLacking 71 = .ok (.iload 4, 2) := by decide +kernel
theorem dX7_firstLacking_73 : decode cX7_firstLacking 73 = .ok (.iload 5, 2) := by decide +kernel
theorem dX7_firstLacking_75 : decode cX7_firstLacking 75 = .ok (.iadd, 1) := by decide +kernel
theorem dX7_firstLacking_76 : decode cX7_firstLacking 76 = .ok (.iaload, 1) := by decide +kernel
theorem dX7_firstLacking_77 : decode cX7_firstLacking 77 = .ok (.iload_n 2, 1) := by decide +kernel
theorem dX7_firstLacking_78 : decode cX7_firstLacking 78 = .ok (.if_icmp .ne 7, 3) := by decide +kernel
theorem dX7_firstLacking_81 : decode cX7_firstLacking 81 = .ok (.iconst 1, 1) := by decide +kernel
theorem dX7_firstLacking_82 : decode cX7_firstLacking 82 = .ok (.goto 4, 3) := by decide +kernel
theorem dX7_firstLacking_85 : decode cX7_firstLacking 85 = .ok (.iconst 0, 1) := by decide +kernel
theorem dX7_firstLacking_86 : decode cX7_firstLacking 86 = .ok (.istore 6, 2) := by decide +kernel
theorem dX7_firstLacking_88 : decode cX7_firstLacking 88 = .ok (.iload 6, 2) := by decide +kernel
theorem dX7_firstLacking_90 : decode cX7_firstLacking 90 = .ok (.ifCond .eq 24, 3) := by decide +kernel
theorem dX7_firstLacking_93 : decode cX7_firstLacking 93 = .ok (.aload_n 0, 1) := by decide +kernel
theorem dX7_firstLacking_94 : decode cX7_firstLacking 94 = .ok (.getfield 69, 3) := by decide +kernel
theorem dX7_firstLacking_97 : decode cX7_firstLacking 97 = .ok (.getfield 106, 3) := by decide +kernel
theorem dX7_firstLacking_100 : decode cX7_firstLacking 100 = .ok (.iload_n 3, 1) := by decide +kernel
theorem dX7_firstLacking_101 : decode cX7_firstLacking 101 = .ok (.bipush 12, 2) := by decide +kernel
theorem dX7_firstLacking_103 : decode cX7_firstLacking 103 = .ok (.imul, 1) := by decide +kernel
theorem dX7_firstLacking_104 : decode cX7_firstLacking 104 = .ok (.iload 5, 2) := by decide +kernel
theorem dX7_firstLacking_106 : decode cX7_firstLacking 106 = .ok (.iadd, 1) := by decide +kernel
theorem dX7_firstLacking_107 : decode cX7_firstLacking 107 = .ok (.iaload, 1) := by decide +kernel
theorem dX7_firstLacking_108 : decode cX7_firstLacking 108 = .ok (.iconst (-1), 1) := by decide +kernel
theorem dX7_firstLacking_109 : decode cX7_firstLacking 109 = .ok (.if_icmp .ne 5, 3) := by decide +kernel
theorem dX7_firstLacking_112 : decode cX7_firstLacking 112 = .ok (.iload_n 3, 1) := by decide +kernel
theorem dX7_firstLacking_113 : decode cX7_firstLacking 113 = .ok (.ireturn, 1) := by decide +kernel
theorem dX7_firstLacking_114 : decode cX7_firstLacking 114 = .ok (.iinc 5 1, 3) := by decide +kernel
theorem dX7_firstLacking_117 : decode cX7_firstLacking 117 = .ok (.goto (-88), 3) := by decide +kernel
theorem dX7_firstLacking_120 : decode cX7_firstLacking 120 = .ok (.iinc 3 1, 3) := by decide +kernel
theorem dX7_firstLacking_123 : decode cX7_firstLacking 123 = .ok (.goto (-121), 3) := by decide +kernel
theorem dX7_firstLacking_126 : decode cX7_firstLacking 126 = .ok (.iconst (-1), 1) := by decide +kernel
theorem dX7_firstLacking_127 : decode cX7_firstLacking 127 = .ok (.ireturn, 1) := by decide +kernel
theorem dX8_init_0 : decode cX8_init 0 = .ok (.aload_n 0, 1) := by decide +kernel
theorem dX8_init_1 : decode cX8_init 1 = .ok (.invokespecial 1, 3) := by decide +kernel
theorem dX8_init_4 : decode cX8_init 4 = .ok (.aload_n 0, 1) := by decide +kernel
theorem dX8_init_5 : decode cX8_init 5 = .ok (.aload_n 1, 1) := by decide +kernel
theorem dX8_init_6 : decode cX8_init 6 = .ok (.putfield 7, 3) := by decide +kernel
theorem dX8_init_9 : decode cX8_init 9 = .ok (.return_, 1) := by decide +kernel
theorem dX8_some_0 : decode cX8_some 0 = .ok (.lload_n 0, 1) := by decide +kernel
theorem dX8_some_1 : decode cX8_some 1 = .ok (.ldc2_w 13, 3) := by decide +kernel
theorem dX8_some_4 : decode cX8_some 4 = .ok (.land, 1) := by decide +kernel
theorem dX8_some_5 : decode cX8_some 5 = .ok (.l2i, 1) := by decide +kernel
theorem dX8_some_6 : decode cX8_some 6 = .ok (.ireturn, 1) := by decide +kernel
theorem dX8_every_0 : decode cX8_every 0 = .ok (.lload_n 0, 1) := by decide +kernel
theorem dX8_every_1 : decode cX8_every 1 = .ok (.bipush 8, 2) := by decide +kernel
theorem dX8_every_3 : decode cX8_every 3 = .ok (.lshr, 1) := by decide +kernel
theorem dX8_every_4 : decode cX8_every 4 = .ok (.ldc2_w 13, 3) := by decide +kernel
theorem dX8_every_7 : decode cX8_every 7 = .ok (.land, 1) := by decide +kernel
theorem dX8_every_8 : decode cX8_every 8 = .ok (.l2i, 1) := by decide +kernel
theorem dX8_every_9 : decode cX8_every 9 = .ok (.ireturn, 1) := by decide +kernel
theorem dX8_fewest_0 : decode cX8_fewest 0 = .ok (.lload_n 0, 1) := by decide +kernel
theorem dX8_fewest_1 : decode cX8_fewest 1 = .ok (.bipush 16, 2) := by decide +kernel
theorem dX8_fewest_3 : decode cX8_fewest 3 = .ok (.lshr, 1) := by decide +kernel
theorem dX8_fewest_4 : decode cX8_fewest 4 = .ok (.ldc2_w 13, 3) := by decide +kernel
theorem dX8_fewest_7 : decode cX8_fewest 7 = .ok (.land, 1) := by decide +kernel
theorem dX8_fewest_8 : decode cX8_fewest 8 = .ok (.l2i, 1) := by decide +kernel
theorem dX8_fewest_9 : decode cX8_fewest 9 = .ok (.ireturn, 1) := by decide +kernel
theorem dX8_most_0 : decode cX8_most 0 = .ok (.lload_n 0, 1) := by decide +kernel
theorem dX8_most_1 : decode cX8_most 1 = .ok (.bipush 24, 2) := by decide +kernel
theorem dX8_most_3 : decode cX8_most 3 = .ok (.lshr, 1) := by decide +kernel
theorem dX8_most_4 : decode cX8_most 4 = .ok (.ldc2_w 13, 3) := by decide +kernel
theorem dX8_most_7 : decode cX8_most 7 = .ok (.land, 1) := by decide +kernel
theorem dX8_most_8 : decode cX8_most 8 = .ok (.l2i, 1) := by decide +kernel
theorem dX8_most_9 : decode cX8_most 9 = .ok (.ireturn, 1) := by decide +kernel
theorem dX8_packed_0 : decode cX8_packed 0 = .ok (.ldc2_w 15, 3) := by decide +kernel
theorem dX8_packed_3 : decode cX8_packed 3 = .ok (.iload_n 0, 1) := by decide +kernel
theorem dX8_packed_4 : decode cX8_packed 4 = .ok (.i2l, 1) := by decide +kernel
theorem dX8_packed_5 : decode cX8_packed 5 = .ok (.lor, 1) := by decide +kernel
theorem dX8_packed_6 : decode cX8_packed 6 = .ok (.iload_n 1, 1) := by decide +kernel
theorem dX8_packed_7 : decode cX8_packed 7 = .ok (.i2l, 1) := by decide +kernel
theorem dX8_packed_8 : decode cX8_packed 8 = .ok (.bipush 8, 2) := by decide +kernel
theorem dX8_packed_10 : decode cX8_packed 10 = .ok (.lshl, 1) := by decide +kernel
theorem dX8_packed_11 : decode cX8_packed 11 = .ok (.lor, 1) := by decide +kernel
theorem dX8_packed_12 : decode cX8_packed 12 = .ok (.iload_n 2, 1) := by decide +kernel
theorem dX8_packed_13 : decode cX8_packed 13 = .ok (.i2l, 1) := by decide +kernel
theorem dX8_packed_14 : decode cX8_packed 14 = .ok (.bipush 16, 2) := by decide +kernel
theorem dX8_packed_16 : decode cX8_packed 16 = .ok (.lshl, 1) := by decide +kernel
theorem dX8_packed_17 : decode cX8_packed 17 = .ok (.lor, 1) := by decide +kernel
theorem dX8_packed_18 : decode cX8_packed 18 = .ok (.iload_n 3, 1) := by decide +kernel
theorem dX8_packed_19 : decode cX8_packed 19 = .ok (.i2l, 1) := by decide +kernel
theorem dX8_packed_20 : decode cX8_packed 20 = .ok (.bipush 24, 2) := by decide +kernel
theorem dX8_packed_22 : decode cX8_packed 22 = .ok (.lshl, 1) := by decide +kernel
theorem dX8_packed_23 : decode cX8_packed 23 = .ok (.lor, 1) := by decide +kernel
theorem dX8_packed_24 : decode cX8_packed 24 = .ok (.lreturn, 1) := by decide +kernel
theorem dX8_one_0 : decode cX8_one 0 = .ok (.ldc2_w 15, 3) := by decide +kernel
theorem dX8_one_3 : decode cX8_one 3 = .ok (.lreturn, 1) := by decide +kernel
theorem dX8_both_0 : decode cX8_both 0 = .ok (.lload_n 1, 1) := by decide +kernel
theorem dX8_both_1 : decode cX8_both 1 = .ok (.lconst 0, 1) := by decide +kernel
theorem dX8_both_2 : decode cX8_both 2 = .ok (.lcmp, 1) := by decide +kernel
theorem dX8_both_3 : decode cX8_both 3 = .ok (.ifCond .eq 9, 3) := by decide +kernel
theorem dX8_both_6 : decode cX8_both 6 = .ok (.lload_n 3, 1) := by decide +kernel
theorem dX8_both_7 : decode cX8_both 7 = .ok (.lconst 0, 1) := by decide +kernel
theorem dX8_both_8 : decode cX8_both 8 = .ok (.lcmp, 1) := by decide +kernel
theorem dX8_both_9 : decode cX8_both 9 = .ok (.ifCond .ne 5, 3) := by decide +kernel
theorem dX8_both_12 : decode cX8_both 12 = .ok (.lconst 0, 1) := by decide +kernel
theorem dX8_both_13 : decode cX8_both 13 = .ok (.lreturn, 1) := by decide +kernel
theorem dX8_both_14 : decode cX8_both 14 = .ok (.lload_n 1, 1) := by decide +kernel
theorem dX8_both_15 : decode cX8_both 15 = .ok (.invokestatic 17, 3) := by decide +kernel
theorem dX8_both_18 : decode cX8_both 18 = .ok (.lload_n 3, 1) := by decide +kernel
theorem dX8_both_19 : decode cX8_both 19 = .ok (.invokestatic 17, 3) := by decide +kernel
theorem dX8_both_22 : decode cX8_both 22 = .ok (.ior, 1) := by decide +kernel
theorem dX8_both_23 : decode cX8_both 23 = .ok (.lload_n 1, 1) := by decide +kernel
theorem dX8_both_24 : decode cX8_both 24 = .ok (.invokestatic 21, 3) := by decide +kernel
theorem dX8_both_27 : decode cX8_both 27 = .ok (.lload_n 3, 1) := by decide +kernel
theorem dX8_both_28 : decode cX8_both 28 = .ok (.invokestatic 21, 3) := by decide +kernel
theorem dX8_both_31 : decode cX8_both 31 = .ok (.ior, 1) := by decide +kernel
theorem dX8_both_32 : decode cX8_both 32 = .ok (.lload_n 1, 1) := by decide +kernel
theorem dX8_both_33 : decode cX8_both 33 = .ok (.invokestatic 24, 3) := by decide +kernel
theorem dX8_both_36 : decode cX8_both 36 = .ok (.lload_n 3, 1) := by decide +kernel
theorem dX8_both_37 : decode cX8_both 37 = .ok (.invokestatic 24, 3) := by decide +kernel
theorem dX8_both_40 : decode cX8_both 40 = .ok (.iadd, 1) := by decide +kernel
theorem dX8_both_41 : decode cX8_both 41 = .ok (.lload_n 1, 1) := by decide +kernel
theorem dX8_both_42 : decode cX8_both 42 = .ok (.invokestatic 27, 3) := by decide +kernel
theorem dX8_both_45 : decode cX8_both 45 = .ok (.lload_n 3, 1) := by decide +kernel
theorem dX8_both_46 : decode cX8_both 46 = .ok (.invokestatic 27, 3) := by decide +kernel
theorem dX8_both_49 : decode cX8_both 49 = .ok (.iadd, 1) := by decide +kernel
theorem dX8_both_50 : decode cX8_both 50 = .ok (.invokestatic 30, 3) := by decide +kernel
theorem dX8_both_53 : decode cX8_both 53 = .ok (.lreturn, 1) := by decide +kernel
theorem dX8_either_0 : decode cX8_either 0 = .ok (.lload_n 1, 1) := by decide +kernel
theorem dX8_either_1 : decode cX8_either 1 = .ok (.lconst 0, 1) := by decide +kernel
theorem dX8_either_2 : decode cX8_either 2 = .ok (.lcmp, 1) := by decide +kernel
theorem dX8_either_3 : decode cX8_either 3 = .ok (.ifCond .eq 9, 3) := by decide +kernel
theorem dX8_either_6 : decode cX8_either 6 = .ok (.lload_n 3, 1) := by decide +kernel
theorem dX8_either_7 : decode cX8_either 7 = .ok (.lconst 0, 1) := by decide +kernel
theorem dX8_either_8 : decode cX8_either 8 = .ok (.lcmp, 1) := by decide +kernel
theorem dX8_either_9 : decode cX8_either 9 = .ok (.ifCond .ne 7, 3) := by decide +kernel
theorem dX8_either_12 : decode cX8_either 12 = .ok (.lload_n 1, 1) := by decide +kernel
theorem dX8_either_13 : decode cX8_either 13 = .ok (.lload_n 3, 1) := by decide +kernel
theorem dX8_either_14 : decode cX8_either 14 = .ok (.lor, 1) := by decide +kernel
theorem dX8_either_15 : decode cX8_either 15 = .ok (.lreturn, 1) := by decide +kernel
theorem dX8_either_16 : decode cX8_either 16 = .ok (.lload_n 1, 1) := by decide +kernel
theorem dX8_either_17 : decode cX8_either 17 = .ok (.invokestatic 17, 3) := by decide +kernel
theorem dX8_either_20 : decode cX8_either 20 = .ok (.lload_n 3, 1) := by decide +kernel
theorem dX8_either_21 : decode cX8_either 21 = .ok (.invokestatic 17, 3) := by decide +kernel
theorem dX8_either_24 : decode cX8_either 24 = .ok (.ior, 1) := by decide +kernel
theorem dX8_either_25 : decode cX8_either 25 = .ok (.lload_n 1, 1) := by decide +kernel
theorem dX8_either_26 : decode cX8_either 26 = .ok (.invokestatic 21, 3) := by decide +kernel
theorem dX8_either_29 : decode cX8_either 29 = .ok (.lload_n 3, 1) := by decide +kernel
theorem dX8_either_30 : decode cX8_either 30 = .ok (.invokestatic 21, 3) := by decide +kernel
theorem dX8_either_33 : decode cX8_either 33 = .ok (.iand, 1) := by decide +kernel
theorem dX8_either_34 : decode cX8_either 34 = .ok (.lload_n 1, 1) := by decide +kernel
theorem dX8_either_35 : decode cX8_either 35 = .ok (.invokestatic 24, 3) := by decide +kernel
theorem dX8_either_38 : decode cX8_either 38 = .ok (.lload_n 3, 1) := by decide +kernel
theorem dX8_either_39 : decode cX8_either 39 = .ok (.invokestatic 24, 3) := by decide +kernel
theorem dX8_either_42 : decode cX8_either 42 = .ok (.invokestatic 34, 3) := by decide +kernel
theorem dX8_either_45 : decode cX8_either 45 = .ok (.lload_n 1, 1) := by decide +kernel
theorem dX8_either_46 : decode cX8_either 46 = .ok (.invokestatic 27, 3) := by decide +kernel
theorem dX8_either_49 : decode cX8_either 49 = .ok (.lload_n 3, 1) := by decide +kernel
theorem dX8_either_50 : decode cX8_either 50 = .ok (.invokestatic 27, 3) := by decide +kernel
theorem dX8_either_53 : decode cX8_either 53 = .ok (.invokestatic 40, 3) := by decide +kernel
theorem dX8_either_56 : decode cX8_either 56 = .ok (.invokestatic 30, 3) := by decide +kernel
theorem dX8_either_59 : decode cX8_either 59 = .ok (.lreturn, 1) := by decide +kernel
theorem dX8_placed_0 : decode cX8_placed 0 = .ok (.lload_n 2, 1) := by decide +kernel
theorem dX8_placed_1 : decode cX8_placed 1 = .ok (.lconst 0, 1) := by decide +kernel
theorem dX8_placed_2 : decode cX8_placed 2 = .ok (.lcmp, 1) := by decide +kernel
theorem dX8_placed_3 : decode cX8_placed 3 = .ok (.ifCond .ne 7, 3) := by decide +kernel
theorem dX8_placed_6 : decode cX8_placed 6 = .ok (.lconst 0, 1) := by decide +kernel
theorem dX8_placed_7 : decode cX8_placed 7 = .ok (.goto 19, 3) := by decide +kernel
theorem dX8_placed_10 : decode cX8_placed 10 = .ok (.lload_n 2, 1) := by decide +kernel
theorem dX8_placed_11 : decode cX8_placed 11 = .ok (.lconst 1, 1) := by decide +kernel
theorem dX8_placed_12 : decode cX8_placed 12 = .ok (.iload_n 1, 1) := by decide +kernel
theorem dX8_placed_13 : decode cX8_placed 13 = .ok (.lshl, 1) := by decide +kernel
theorem dX8_placed_14 : decode cX8_placed 14 = .ok (.lor, 1) := by decide +kernel
theorem dX8_placed_15 : decode cX8_placed 15 = .ok (.lconst 1, 1) := by decide +kernel
theorem dX8_placed_16 : decode cX8_placed 16 = .ok (.iload_n 1, 1) := by decide +kernel
theorem dX8_placed_17 : decode cX8_placed 17 = .ok (.bipush 8, 2) := by decide +kernel
theorem dX8_placed_19 : decode cX8_placed 19 = .ok (.iadd, 1) := by decide +kernel
theorem dX8_placed_20 : decode cX8_placed 20 = .ok (.lshl, 1) := by decide +kernel
theorem dX8_placed_21 : decode cX8_placed 21 = .ok (.lor, 1) := by decide +kernel
theorem dX8_placed_22 : decode cX8_placed 22 = .ok (.ldc2_w 43, 3) := by decide +kernel
theorem dX8_placed_25 : decode cX8_placed 25 = .ok (.ladd, 1) := by decide +kernel
theorem dX8_placed_26 : decode cX8_placed 26 = .ok (.lreturn, 1) := by decide +kernel
theorem dX8_letterAt_0 : decode cX8_letterAt 0 = .ok (.aload_n 0, 1) := by decide +kernel
theorem dX8_letterAt_1 : decode cX8_letterAt 1 = .ok (.getfield 7, 3) := by decide +kernel
theorem dX8_letterAt_4 : decode cX8_letterAt 4 = .ok (.iload_n 1, 1) := by decide +kernel
theorem dX8_letterAt_5 : decode cX8_letterAt 5 = .ok (.invokevirtual 45, 3) := by decide +kernel
theorem dX8_letterAt_8 : decode cX8_letterAt 8 = .ok (.iload_n 2, 1) := by decide +kernel
theorem dX8_letterAt_9 : decode cX8_letterAt 9 = .ok (.if_icmp .ne 9, 3) := by decide +kernel
theorem dX8_letterAt_12 : decode cX8_letterAt 12 = .ok (.ldc2_w 15, 3) := by decide +kernel
theorem dX8_letterAt_15 : decode cX8_letterAt 15 = .ok (.goto 4, 3) := by decide +kernel
theorem dX8_letterAt_18 : decode cX8_letterAt 18 = .ok (.lconst 0, 1) := by decide +kernel
theorem dX8_letterAt_19 : decode cX8_letterAt 19 = .ok (.lreturn, 1) := by decide +kernel
theorem dX9_init_0 : decode cX9_init 0 = .ok (.aload_n 0, 1) := by decide +kernel
theorem dX9_init_1 : decode cX9_init 1 = .ok (.invokespecial 3, 3) := by decide +kernel
theorem dX9_init_4 : decode cX9_init 4 = .ok (.aload_n 0, 1) := by decide +kernel
theorem dX9_init_5 : decode cX9_init 5 = .ok (.bipush 48, 2) := by decide +kernel
theorem dX9_init_7 : decode cX9_init 7 = .ok (.newarray .int, 2) := by decide +kernel
theorem dX9_init_9 : decode cX9_init 9 = .ok (.putfield 9, 3) := by decide +kernel
theorem dX9_init_12 : decode cX9_init 12 = .ok (.aload_n 0, 1) := by decide +kernel
theorem dX9_init_13 : decode cX9_init 13 = .ok (.bipush 48, 2) := by decide +kernel
theorem dX9_init_15 : decode cX9_init 15 = .ok (.newarray .int, 2) := by decide +kernel
theorem dX9_init_17 : decode cX9_init 17 = .ok (.putfield 15, 3) := by decide +kernel
theorem dX9_init_20 : decode cX9_init 20 = .ok (.aload_n 0, 1) := by decide +kernel
theorem dX9_init_21 : decode cX9_init 21 = .ok (.bipush 48, 2) := by decide +kernel
theorem dX9_init_23 : decode cX9_init 23 = .ok (.newarray .int, 2) := by decide +kernel
theorem dX9_init_25 : decode cX9_init 25 = .ok (.putfield 18, 3) := by decide +kernel
theorem dX9_init_28 : decode cX9_init 28 = .ok (.aload_n 0, 1) := by decide +kernel
theorem dX9_init_29 : decode cX9_init 29 = .ok (.bipush 48, 2) := by decide +kernel
theorem dX9_init_31 : decode cX9_init 31 = .ok (.newarray .int, 2) := by decide +kernel
theorem dX9_init_33 : decode cX9_init 33 = .ok (.putfield 21, 3) := by decide +kernel
theorem dX9_init_36 : decode cX9_init 36 = .ok (.aload_n 0, 1) := by decide +kernel
theorem dX9_init_37 : decode cX9_init 37 = .ok (.sipush 576, 3) := by decide +kernel
theorem dX9_init_40 : decode cX9_init 40 = .ok (.newarray .int, 2) := by decide +kernel
theorem dX9_init_42 : decode cX9_init 42 = .ok (.putfield 24, 3) := by decide +kernel
theorem dX9_init_45 : decode cX9_init 45 = .ok (.aload_n 0, 1) := by decide +kernel
theorem dX9_init_46 : decode cX9_init 46 = .ok (.new 27, 3) := by decide +kernel
theorem dX9_init_49 : decode cX9_init 49 = .ok (.dup, 1) := by decide +kernel
theorem dX9_init_50 : decode cX9_init 50 = .ok (.sipush 2048, 3) := by decide +kernel
theorem dX9_init_53 : decode cX9_init 53 = .ok (.invokespecial 29, 3) := by decide +kernel
theorem dX9_init_56 : decode cX9_init 56 = .ok (.putfield 32, 3) := by decide +kernel
theorem dX9_init_59 : decode cX9_init 59 = .ok (.aload_n 0, 1) := by decide +kernel
theorem dX9_init_60 : decode cX9_init 60 = .ok (.new 27, 3) := by decide +kernel
theorem dX9_init_63 : decode cX9_init 63 = .ok (.dup, 1) := by decide +kernel
theorem dX9_init_64 : decode cX9_init 64 = .ok (.sipush 576, 3) := by decide +kernel
theorem dX9_init_67 : decode cX9_init 67 = .ok (.invokespecial 29, 3) := by decide +kernel
theorem dX9_init_70 : decode cX9_init 70 = .ok (.putfield 36, 3) := by decide +kernel
theorem dX9_init_73 : decode cX9_init 73 = .ok (.aload_n 0, 1) := by decide +kernel
theorem dX9_init_74 : decode cX9_init 74 = .ok (.sipush 576, 3) := by decide +kernel
theorem dX9_init_77 : decode cX9_init 77 = .ok (.newarray .int, 2) := by decide +kernel
theorem dX9_init_79 : decode cX9_init 79 = .ok (.putfield 39, 3) := by decide +kernel
theorem dX9_init_82 : decode cX9_init 82 = .ok (.aload_n 0, 1) := by decide +kernel
theorem dX9_init_83 : decode cX9_init 83 = .ok (.sipush 576, 3) := by decide +kernel
theorem dX9_init_86 : decode cX9_init 86 = .ok (.newarray .int, 2) := by decide +kernel
theorem dX9_init_88 : decode cX9_init 88 = .ok (.putfield 42, 3) := by decide +kernel
theorem dX9_init_91 : decode cX9_init 91 = .ok (.aload_n 0, 1) := by decide +kernel
theorem dX9_init_92 : decode cX9_init 92 = .ok (.sipush 1024, 3) := by decide +kernel
theorem dX9_init_95 : decode cX9_init 95 = .ok (.newarray .int, 2) := by decide +kernel
theorem dX9_init_97 : decode cX9_init 97 = .ok (.putfield 45, 3) := by decide +kernel
theorem dX9_init_100 : decode cX9_init 100 = .ok (.return_, 1) := by decide +kernel
theorem dX9_clear_0 : decode cX9_clear 0 = .ok (.aload_n 0, 1) := by decide +kernel
theorem dX9_clear_1 : decode cX9_clear 1 = .ok (.iconst 0, 1) := by decide +kernel
theorem dX9_clear_2 : decode cX9_clear 2 = .ok (.putfield 48, 3) := by decide +kernel
theorem dX9_clear_5 : decode cX9_clear 5 = .ok (.aload_n 0, 1) := by decide +kernel
theorem dX9_clear_6 : decode cX9_clear 6 = .ok (.getfield 24, 3) := by decide +kernel
theorem dX9_clear_9 : decode cX9_clear 9 = .ok (.iconst (-1), 1) := by decide +kernel
theorem dX9_clear_10 : decode cX9_clear 10 = .ok (.invokestatic 52, 3) := by decide +kernel
theorem dX9_clear_13 : decode cX9_clear 13 = .ok (.return_, 1) := by decide +kernel
theorem dX9_addStep_0 : decode cX9_addStep 0 = .ok (.aload_n 0, 1) := by decide +kernel
theorem dX9_addStep_1 : decode cX9_addStep 1 = .ok (.getfield 48, 3) := by decide +kernel
theorem dX9_addStep_4 : decode cX9_addStep 4 = .ok (.bipush 48, 2) := by decide +kernel
theorem dX9_addStep_6 : decode cX9_addStep 6 = .ok (.if_icmp .lt 6, 3) := by decide +kernel
theorem dX9_addStep_9 : decode cX9_addStep 9 = .ok (.bipush 47, 2) := by decide +kernel
theorem dX9_addStep_11 : decode cX9_addStep 11 = .ok (.ireturn, 1) := by decide +kernel
theorem dX9_addStep_12 : decode cX9_addStep 12 = .ok (.aload_n 0, 1) := by decide +kernel
theorem dX9_addStep_13 : decode cX9_addStep 13 = .ok (.getfield 48, 3) := by decide +kernel
theorem dX9_addStep_16 : decode cX9_addStep 16 = .ok (.istore 4, 2) := by decide +kernel
theorem dX9_addStep_18 : decode cX9_addStep 18 = .ok (.aload_n 0, 1) := by decide +kernel
theorem dX9_addStep_19 : decode cX9_addStep 19 = .ok (.getfield 9, 3) := by decide +kernel
theorem dX9_addStep_22 : decode cX9_addStep 22 = .ok (.iload 4, 2) := by decide +kernel
theorem dX9_addStep_24 : decode cX9_addStep 24 = .ok (.iload_n 1, 1) := by decide +kernel
theorem dX9_addStep_25 : decode cX9_addStep 25 = .ok (.iastore, 1) := by decide +kernel
theorem dX9_addStep_26 : decode cX9_addStep 26 = .ok (.aload_n 0, 1) := by decide +kernel
theorem dX9_addStep_27 : decode cX9_addStep 27 = .ok (.getfield 15, 3) := by decide +kernel
theorem dX9_addStep_30 : decode cX9_addStep 30 = .ok (.iload 4, 2) := by decide +kernel
theorem dX9_addStep_32 : decode cX9_addStep 32 = .ok (.iload_n 2, 1) := by decide +kernel
theorem dX9_addStep_33 : decode cX9_addStep 33 = .ok (.iastore, 1) := by decide +kernel
theorem dX9_addStep_34 : decode cX9_addStep 34 = .ok (.aload_n 0, 1) := by decide +kernel
theorem dX9_addStep_35 : decode cX9_addStep 35 = .ok (.getfield 18, 3) := by decide +kernel
theorem dX9_addStep_38 : decode cX9_addStep 38 = .ok (.iload 4, 2) := by decide +kernel
theorem dX9_addStep_40 : decode cX9_addStep 40 = .ok (.iload_n 3, 1) := by decide +kernel
theorem dX9_addStep_41 : decode cX9_addStep 41 = .ok (.iastore, 1) := by decide +kernel
theorem dX9_addStep_42 : decode cX9_addStep 42 = .ok (.aload_n 0, 1) := by decide +kernel
theorem dX9_addStep_43 : decode cX9_addStep 43 = .ok (.getfield 21, 3) := by decide +kernel
theorem dX9_addStep_46 : decode cX9_addStep 46 = .ok (.iload 4, 2) := by decide +kernel
theorem dX9_addStep_48 : decode cX9_addStep 48 = .ok (.iconst (-1), 1) := by decide +kernel
theorem dX9_addStep_49 : decode cX9_addStep 49 = .ok (.iastore, 1) := by decide +kernel
theorem dX9_addStep_50 : decode cX9_addStep 50 = .ok (.iload_n 2, 1) := by decide +kernel
theorem dX9_addStep_51 : decode cX9_addStep 51 = .ok (.iconst (-1), 1) := by decide +kernel
theorem dX9_addStep_52 : decode cX9_addStep 52 = .ok (.if_icmp .eq 16, 3) := by decide +kernel
theorem dX9_addStep_55 : decode cX9_addStep 55 = .ok (.aload_n 0, 1) := by decide +kernel
theorem dX9_addStep_56 : decode cX9_addStep 56 = .ok (.getfield 24, 3) := by decide +kernel
theorem dX9_addStep_59 : decode cX9_addStep 59 = .ok (.iload_n 2, 1) := by decide +kernel
theorem dX9_addStep_60 : decode cX9_addStep 60 = .ok (.bipush 12, 2) := by decide +kernel
theorem dX9_addStep_62 : decode cX9_addStep 62 = .ok (.imul, 1) := by decide +kernel
theorem dX9_addStep_63 : decode cX9_addStep 63 = .ok (.iload_n 3, 1) := by decide +kernel
theorem dX9_addStep_64 : decode cX9_addStep 64 = .ok (.iadd, 1) := by decide +kernel
theorem dX9_addStep_65 : decode cX9_addStep 65 = .ok (.iload 4, 2) := by decide +kernel
theorem dX9_addStep_67 : decode cX9_addStep 67 = .ok (.iastore, 1) := by decide +kernel
theorem dX9_addStep_68 : decode cX9_addStep 68 = .ok (.aload_n 0, 1) := by decide +kernel
theorem dX9_addStep_69 : decode cX9_addStep 69 = .ok (.dup, 1) := by decide +kernel
theorem dX9_addStep_70 : decode cX9_addStep 70 = .ok (.getfield 48, 3) := by decide +kernel
theorem dX9_addStep_73 : decode cX9_addStep 73 = .ok (.iconst 1, 1) := by decide +kernel
theorem dX9_addStep_74 : decode cX9_addStep 74 = .ok (.iadd, 1) := by decide +kernel
theorem dX9_addStep_75 : decode cX9_addStep 75 = .ok (.putfield 48, 3) := by decide +kernel
theorem dX9_addStep_78 : decode cX9_addStep 78 = .ok (.iload 4, 2) := by decide +kernel
theorem dX9_addStep_80 : decode cX9_addStep 80 = .ok (.ireturn, 1) := by decide +kernel
theorem dX9_tellSteps_0 : decode cX9_tellSteps 0 = .ok (.iconst 0, 1) := by decide +kernel
theorem dX9_tellSteps_1 : decode cX9_tellSteps 1 = .ok (.istore_n 2, 1) := by decide +kernel
theorem dX9_tellSteps_2 : decode cX9_tellSteps 2 = .ok (.iload_n 2, 1) := by decide +kernel
theorem dX9_tellSteps_3 : decode cX9_tellSteps 3 = .ok (.aload_n 0, 1) := by decide +kernel
theorem dX9_tellSteps_4 : decode cX9_tellSteps 4 = .ok (.getfield 48, 3) := by decide +kernel
theorem dX9_tellSteps_7 : decode cX9_tellSteps 7 = .ok (.if_icmp .ge 61, 3) := by decide +kernel
theorem dX9_tellSteps_10 : decode cX9_tellSteps 10 = .ok (.aload_n 1, 1) := by decide +kernel
theorem dX9_tellSteps_11 : decode cX9_tellSteps 11 = .ok (.aload_n 0, 1) := by decide +kernel
theorem dX9_tellSteps_12 : decode cX9_tellSteps 12 = .ok (.getfield 9, 3) := by decide +kernel
theorem dX9_tellSteps_15 : decode cX9_tellSteps 15 = .ok (.iload_n 2, 1) := by decide +kernel
theorem dX9_tellSteps_16 : decode cX9_tellSteps 16 = .ok (.iaload, 1) := by decide +kernel
theorem dX9_tellSteps_17 : decode cX9_tellSteps 17 = .ok (.invokevirtual 58, 3) := by decide +kernel
theorem dX9_tellSteps_20 : decode cX9_tellSteps 20 = .ok (.iload_n 2, 1) := by decide +kernel
theorem dX9_tellSteps_21 : decode cX9_tellSteps 21 = .ok (.ifCond .le 35, 3) := by decide +kernel
theorem dX9_tellSteps_24 : decode cX9_tellSteps 24 = .ok (.aload_n 1, 1) := by decide +kernel
theorem dX9_tellSteps_25 : decode cX9_tellSteps 25 = .ok (.bipush 32, 2) := by decide +kernel
theorem dX9_tellSteps_27 : decode cX9_tellSteps 27 = .ok (.invokevirtual 61, 3) := by decide +kernel
theorem dX9_tellSteps_30 : decode cX9_tellSteps 30 = .ok (.aload_n 1, 1) := by decide +kernel
theorem dX9_tellSteps_31 : decode cX9_tellSteps 31 = .ok (.aload_n 0, 1) := by decide +kernel
theorem dX9_tellSteps_32 : decode cX9_tellSteps 32 = .ok (.getfield 15, 3) := by decide +kernel
theorem dX9_tellSteps_35 : decode cX9_tellSteps 35 = .ok (.iload_n 2, 1) := by decide +kernel
theorem dX9_tellSteps_36 : decode cX9_tellSteps 36 = .ok (.iaload, 1) := by decide +kernel
theorem dX9_tellSteps_37 : decode cX9_tellSteps 37 = .ok (.invokevirtual 58, 3) := by decide +kernel
theorem dX9_tellSteps_40 : decode cX9_tellSteps 40 = .ok (.aload_n 1, 1) := by decide +kernel
theorem dX9_tellSteps_41 : decode cX9_tellSteps 41 = .ok (.bipush 32, 2) := by decide +kernel
theorem dX9_tellSteps_43 : decode cX9_tellSteps 43 = .ok (.invokevirtual 61, 3) := by decide +kernel
theorem dX9_tellSteps_46 : decode cX9_tellSteps 46 = .ok (.aload_n 1, 1) := by decide +kernel
theorem dX9_tellSteps_47 : decode cX9_tellSteps 47 = .ok (.aload_n 0, 1) := by decide +kernel
theorem dX9_tellSteps_48 : decode cX9_tellSteps 48 = .ok (.getfield 18, 3) := by decide +kernel
theorem dX9_tellSteps_51 : decode cX9_tellSteps 51 = .ok (.iload_n 2, 1) := by decide +kernel
theorem dX9_tellSteps_52 : decode cX9_tellSteps 52 = .ok (.iaload, 1) := by decide +kernel
theorem dX9_tellSteps_53 : decode cX9_tellSteps 53 = .ok (.invokevirtual 58, 3) := by decide +kernel
theorem dX9_tellSteps_56 : decode cX9_tellSteps 56 = .ok (.aload_n 1, 1) := by decide +kernel
theorem dX9_tellSteps_57 : decode cX9_tellSteps 57 = .ok (.bipush 59, 2) := by decide +kernel
theorem dX9_tellSteps_59 : decode cX9_tellSteps 59 = .ok (.invokevirtual 61, 3) := by decide +kernel
theorem dX9_tellSteps_62 : decode cX9_tellSteps 62 = .ok (.iinc 2 1, 3) := by decide +kernel
theorem dX9_tellSteps_65 : decode cX9_tellSteps 65 = .ok (.goto (-63), 3) := by decide +kernel
theorem dX9_tellSteps_68 : decode cX9_tellSteps 68 = .ok (.return_, 1) := by decide +kernel
theorem dX9_unfold_0 : decode cX9_unfold 0 = .ok (.aload_n 0, 1) := by decide +kernel
theorem dX9_unfold_1 : decode cX9_unfold 1 = .ok (.getfield 32, 3) := by decide +kernel
theorem dX9_unfold_4 : decode cX9_unfold 4 = .ok (.iconst 0, 1) := by decide +kernel
theorem dX9_unfold_5 : decode cX9_unfold 5 = .ok (.putfield 64, 3) := by decide +kernel
theorem dX9_unfold_8 : decode cX9_unfold 8 = .ok (.aload_n 0, 1) := by decide +kernel
theorem dX9_unfold_9 : decode cX9_unfold 9 = .ok (.getfield 36, 3) := by decide +kernel
theorem dX9_unfold_12 : decode cX9_unfold 12 = .ok (.iconst 0, 1) := by decide +kernel
theorem dX9_unfold_13 : decode cX9_unfold 13 = .ok (.putfield 64, 3) := by decide +kernel
theorem dX9_unfold_16 : decode cX9_unfold 16 = .ok (.aload_n 0, 1) := by decide +kernel
theorem dX9_unfold_17 : decode cX9_unfold 17 = .ok (.iconst 0, 1) := by decide +kernel
theorem dX9_unfold_18 : decode cX9_unfold 18 = .ok (.putfield 67, 3) := by decide +kernel
theorem dX9_unfold_21 : decode cX9_unfold 21 = .ok (.aload_n 0, 1) := by decide +kernel
