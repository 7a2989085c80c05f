theorem dX0_init_0 : decode cX0_init 0 = .ok (.aload_n 0, 1) := by decide +kernel
theorem dX0_init_1 : decode cX0_init 1 = .ok (.invokespecial 1, 3) := by decide +kernel
theorem dX0_init_4 : decode cX0_init 4 = .ok (.return_, 1) := by decide +kernel
theorem dX1_init_0 : decode cX1_init 0 = .ok (.aload_n 0, 1) := by decide +kernel
theorem dX1_init_1 : decode cX1_init 1 = .ok (.invokespecial 3, 3) := by decide +kernel
theorem dX1_init_4 : decode cX1_init 4 = .ok (.aload_n 0, 1) := by decide +kernel
theorem dX1_init_5 : decode cX1_init 5 = .ok (.iload_n 1, 1) := by decide +kernel
theorem dX1_init_6 : decode cX1_init 6 = .ok (.iconst 0, 1) := by decide +kernel
theorem dX1_init_7 : decode cX1_init 7 = .ok (.invokestatic 9, 3) := by decide +kernel
theorem dX1_init_10 : decode cX1_init 10 = .ok (.newarray .byte, 2) := by decide +kernel
theorem dX1_init_12 : decode cX1_init 12 = .ok (.putfield 15, 3) := by decide +kernel
theorem dX1_init_15 : decode cX1_init 15 = .ok (.return_, 1) := by decide +kernel
theorem dX1_room_0 : decode cX1_room 0 = .ok (.aload_n 0, 1) := by decide +kernel
theorem dX1_room_1 : decode cX1_room 1 = .ok (.getfield 15, 3) := by decide +kernel
theorem dX1_room_4 : decode cX1_room 4 = .ok (.arraylength, 1) := by decide +kernel
theorem dX1_room_5 : decode cX1_room 5 = .ok (.aload_n 0, 1) := by decide +kernel
theorem dX1_room_6 : decode cX1_room 6 = .ok (.getfield 21, 3) := by decide +kernel
theorem dX1_room_9 : decode cX1_room 9 = .ok (.isub, 1) := by decide +kernel
theorem dX1_room_10 : decode cX1_room 10 = .ok (.ireturn, 1) := by decide +kernel
theorem dX1_at_0 : decode cX1_at 0 = .ok (.iload_n 1, 1) := by decide +kernel
theorem dX1_at_1 : decode cX1_at 1 = .ok (.ifCond .lt 20, 3) := by decide +kernel
theorem dX1_at_4 : decode cX1_at 4 = .ok (.iload_n 1, 1) := by decide +kernel
theorem dX1_at_5 : decode cX1_at 5 = .ok (.aload_n 0, 1) := by decide +kernel
theorem dX1_at_6 : decode cX1_at 6 = .ok (.getfield 21, 3) := by decide +kernel
theorem dX1_at_9 : decode cX1_at 9 = .ok (.if_icmp .ge 12, 3) := by decide +kernel
theorem dX1_at_12 : decode cX1_at 12 = .ok (.iload_n 1, 1) := by decide +kernel
theorem dX1_at_13 : decode cX1_at 13 = .ok (.aload_n 0, 1) := by decide +kernel
theorem dX1_at_14 : decode cX1_at 14 = .ok (.getfield 15, 3) := by decide +kernel
theorem dX1_at_17 : decode cX1_at 17 = .ok (.arraylength, 1) := by decide +kernel
theorem dX1_at_18 : decode cX1_at 18 = .ok (.if_icmp .lt 7, 3) := by decide +kernel
theorem dX1_at_21 : decode cX1_at 21 = .ok (.iconst (-1), 1) := by decide +kernel
theorem dX1_at_22 : decode cX1_at 22 = .ok (.goto 13, 3) := by decide +kernel
theorem dX1_at_25 : decode cX1_at 25 = .ok (.aload_n 0, 1) := by decide +kernel
theorem dX1_at_26 : decode cX1_at 26 = .ok (.getfield 15, 3) := by decide +kernel
theorem dX1_at_29 : decode cX1_at 29 = .ok (.iload_n 1, 1) := by decide +kernel
theorem dX1_at_30 : decode cX1_at 30 = .ok (.baload, 1) := by decide +kernel
theorem dX1_at_31 : decode cX1_at 31 = .ok (.sipush 255, 3) := by decide +kernel
theorem dX1_at_34 : decode cX1_at 34 = .ok (.iand, 1) := by decide +kernel
theorem dX1_at_35 : decode cX1_at 35 = .ok (.ireturn, 1) := by decide +kernel
theorem dX1_add_0 : decode cX1_add 0 = .ok (.aload_n 0, 1) := by decide +kernel
theorem dX1_add_1 : decode cX1_add 1 = .ok (.getfield 21, 3) := by decide +kernel
theorem dX1_add_4 : decode cX1_add 4 = .ok (.ifCond .lt 36, 3) := by decide +kernel
theorem dX1_add_7 : decode cX1_add 7 = .ok (.aload_n 0, 1) := by decide +kernel
theorem dX1_add_8 : decode cX1_add 8 = .ok (.getfield 21, 3) := by decide +kernel
theorem dX1_add_11 : decode cX1_add 11 = .ok (.aload_n 0, 1) := by decide +kernel
theorem dX1_add_12 : decode cX1_add 12 = .ok (.getfield 15, 3) := by decide +kernel
theorem dX1_add_15 : decode cX1_add 15 = .ok (.arraylength, 1) := by decide +kernel
theorem dX1_add_16 : decode cX1_add 16 = .ok (.if_icmp .ge 24, 3) := by decide +kernel
theorem dX1_add_19 : decode cX1_add 19 = .ok (.aload_n 0, 1) := by decide +kernel
theorem dX1_add_20 : decode cX1_add 20 = .ok (.getfield 15, 3) := by decide +kernel
theorem dX1_add_23 : decode cX1_add 23 = .ok (.aload_n 0, 1) := by decide +kernel
theorem dX1_add_24 : decode cX1_add 24 = .ok (.getfield 21, 3) := by decide +kernel
theorem dX1_add_27 : decode cX1_add 27 = .ok (.iload_n 1, 1) := by decide +kernel
theorem dX1_add_28 : decode cX1_add 28 = .ok (.i2b, 1) := by decide +kernel
theorem dX1_add_29 : decode cX1_add 29 = .ok (.bastore, 1) := by decide +kernel
theorem dX1_add_30 : decode cX1_add 30 = .ok (.aload_n 0, 1) := by decide +kernel
theorem dX1_add_31 : decode cX1_add 31 = .ok (.dup, 1) := by decide +kernel
theorem dX1_add_32 : decode cX1_add 32 = .ok (.getfield 21, 3) := by decide +kernel
theorem dX1_add_35 : decode cX1_add 35 = .ok (.iconst 1, 1) := by decide +kernel
theorem dX1_add_36 : decode cX1_add 36 = .ok (.iadd, 1) := by decide +kernel
theorem dX1_add_37 : decode cX1_add 37 = .ok (.putfield 21, 3) := by decide +kernel
theorem dX1_add_40 : decode cX1_add 40 = .ok (.return_, 1) := by decide +kernel
theorem dX1_addFour_0 : decode cX1_addFour 0 = .ok (.aload_n 0, 1) := by decide +kernel
theorem dX1_addFour_1 : decode cX1_addFour 1 = .ok (.iload_n 1, 1) := by decide +kernel
theorem dX1_addFour_2 : decode cX1_addFour 2 = .ok (.bipush 24, 2) := by decide +kernel
theorem dX1_addFour_4 : decode cX1_addFour 4 = .ok (.ishr, 1) := by decide +kernel
theorem dX1_addFour_5 : decode cX1_addFour 5 = .ok (.invokevirtual 25, 3) := by decide +kernel
theorem dX1_addFour_8 : decode cX1_addFour 8 = .ok (.aload_n 0, 1) := by decide +kernel
theorem dX1_addFour_9 : decode cX1_addFour 9 = .ok (.iload_n 1, 1) := by decide +kernel
theorem dX1_addFour_10 : decode cX1_addFour 10 = .ok (.bipush 16, 2) := by decide +kernel
theorem dX1_addFour_12 : decode cX1_addFour 12 = .ok (.ishr, 1) := by decide +kernel
theorem dX1_addFour_13 : decode cX1_addFour 13 = .ok (.invokevirtual 25, 3) := by decide +kernel
theorem dX1_addFour_16 : decode cX1_addFour 16 = .ok (.aload_n 0, 1) := by decide +kernel
theorem dX1_addFour_17 : decode cX1_addFour 17 = .ok (.iload_n 1, 1) := by decide +kernel
theorem dX1_addFour_18 : decode cX1_addFour 18 = .ok (.bipush 8, 2) := by decide +kernel
theorem dX1_addFour_20 : decode cX1_addFour 20 = .ok (.ishr, 1) := by decide +kernel
theorem dX1_addFour_21 : decode cX1_addFour 21 = .ok (.invokevirtual 25, 3) := by decide +kernel
theorem dX1_addFour_24 : decode cX1_addFour 24 = .ok (.aload_n 0, 1) := by decide +kernel
theorem dX1_addFour_25 : decode cX1_addFour 25 = .ok (.iload_n 1, 1) := by decide +kernel
theorem dX1_addFour_26 : decode cX1_addFour 26 = .ok (.invokevirtual 25, 3) := by decide +kernel
theorem dX1_addFour_29 : decode cX1_addFour 29 = .ok (.return_, 1) := by decide +kernel
theorem dX1_addNumber_0 : decode cX1_addNumber 0 = .ok (.iload_n 1, 1) := by decide +kernel
theorem dX1_addNumber_1 : decode cX1_addNumber 1 = .ok (.bipush 10, 2) := by decide +kernel
theorem dX1_addNumber_3 : decode cX1_addNumber 3 = .ok (.if_icmp .lt 14, 3) := by decide +kernel
theorem dX1_addNumber_6 : decode cX1_addNumber 6 = .ok (.aload_n 0, 1) := by decide +kernel
theorem dX1_addNumber_7 : decode cX1_addNumber 7 = .ok (.bipush 48, 2) := by decide +kernel
theorem dX1_addNumber_9 : decode cX1_addNumber 9 = .ok (.iload_n 1, 1) := by decide +kernel
theorem dX1_addNumber_10 : decode cX1_addNumber 10 = .ok (.bipush 10, 2) := by decide +kernel
theorem dX1_addNumber_12 : decode cX1_addNumber 12 = .ok (.idiv, 1) := by decide +kernel
theorem dX1_addNumber_13 : decode cX1_addNumber 13 = .ok (.iadd, 1) := by decide +kernel
theorem dX1_addNumber_14 : decode cX1_addNumber 14 = .ok (.invokevirtual 25, 3) := by decide +kernel
theorem dX1_addNumber_17 : decode cX1_addNumber 17 = .ok (.aload_n 0, 1) := by decide +kernel
theorem dX1_addNumber_18 : decode cX1_addNumber 18 = .ok (.bipush 48, 2) := by decide +kernel
theorem dX1_addNumber_20 : decode cX1_addNumber 20 = .ok (.iload_n 1, 1) := by decide +kernel
theorem dX1_addNumber_21 : decode cX1_addNumber 21 = .ok (.bipush 10, 2) := by decide +kernel
theorem dX1_addNumber_23 : decode cX1_addNumber 23 = .ok (.irem, 1) := by decide +kernel
theorem dX1_addNumber_24 : decode cX1_addNumber 24 = .ok (.iadd, 1) := by decide +kernel
theorem dX1_addNumber_25 : decode cX1_addNumber 25 = .ok (.invokevirtual 25, 3) := by decide +kernel
theorem dX1_addNumber_28 : decode cX1_addNumber 28 = .ok (.return_, 1) := by decide +kernel
theorem dX1_takeFrom_0 : decode cX1_takeFrom 0 = .ok (.aload_n 0, 1) := by decide +kernel
theorem dX1_takeFrom_1 : decode cX1_takeFrom 1 = .ok (.iconst 0, 1) := by decide +kernel
theorem dX1_takeFrom_2 : decode cX1_takeFrom 2 = .ok (.putfield 21, 3) := by decide +kernel
theorem dX1_takeFrom_5 : decode cX1_takeFrom 5 = .ok (.iconst 0, 1) := by decide +kernel
theorem dX1_takeFrom_6 : decode cX1_takeFrom 6 = .ok (.istore_n 3, 1) := by decide +kernel
theorem dX1_takeFrom_7 : decode cX1_takeFrom 7 = .ok (.iload_n 3, 1) := by decide +kernel
theorem dX1_takeFrom_8 : decode cX1_takeFrom 8 = .ok (.aload_n 1, 1) := by decide +kernel
theorem dX1_takeFrom_9 : decode cX1_takeFrom 9 = .ok (.getfield 21, 3) := by decide +kernel
theorem dX1_takeFrom_12 : decode cX1_takeFrom 12 = .ok (.if_icmp .ge 20, 3) := by decide +kernel
theorem dX1_takeFrom_15 : decode cX1_takeFrom 15 = .ok (.aload_n 0, 1) := by decide +kernel
theorem dX1_takeFrom_16 : decode cX1_takeFrom 16 = .ok (.aload_n 1, 1) := by decide +kernel
theorem dX1_takeFrom_17 : decode cX1_takeFrom 17 = .ok (.iload_n 3, 1) := by decide +kernel
theorem dX1_takeFrom_18 : decode cX1_takeFrom 18 = .ok (.invokevirtual 29, 3) := by decide +kernel
theorem dX1_takeFrom_21 : decode cX1_takeFrom 21 = .ok (.iload_n 2, 1) := by decide +kernel
theorem dX1_takeFrom_22 : decode cX1_takeFrom 22 = .ok (.iadd, 1) := by decide +kernel
theorem dX1_takeFrom_23 : decode cX1_takeFrom 23 = .ok (.invokevirtual 25, 3) := by decide +kernel
theorem dX1_takeFrom_26 : decode cX1_takeFrom 26 = .ok (.iinc 3 1, 3) := by decide +kernel
theorem dX1_takeFrom_29 : decode cX1_takeFrom 29 = .ok (.goto (-22), 3) := by decide +kernel
theorem dX1_takeFrom_32 : decode cX1_takeFrom 32 = .ok (.return_, 1) := by decide +kernel
theorem dX1_isLike_0 : decode cX1_isLike 0 = .ok (.aload_n 0, 1) := by decide +kernel
theorem dX1_isLike_1 : decode cX1_isLike 1 = .ok (.getfield 21, 3) := by decide +kernel
theorem dX1_isLike_4 : decode cX1_isLike 4 = .ok (.aload_n 1, 1) := by decide +kernel
theorem dX1_isLike_5 : decode cX1_isLike 5 = .ok (.getfield 21, 3) := by decide +kernel
theorem dX1_isLike_8 : decode cX1_isLike 8 = .ok (.if_icmp .ne 7, 3) := by decide +kernel
theorem dX1_isLike_11 : decode cX1_isLike 11 = .ok (.iconst 1, 1) := by decide +kernel
theorem dX1_isLike_12 : decode cX1_isLike 12 = .ok (.goto 4, 3) := by decide +kernel
theorem dX1_isLike_15 : decode cX1_isLike 15 = .ok (.iconst 0, 1) := by decide +kernel
theorem dX1_isLike_16 : decode cX1_isLike 16 = .ok (.istore_n 2, 1) := by decide +kernel
theorem dX1_isLike_17 : decode cX1_isLike 17 = .ok (.iconst 0, 1) := by decide +kernel
theorem dX1_isLike_18 : decode cX1_isLike 18 = .ok (.istore_n 3, 1) := by decide +kernel
theorem dX1_isLike_19 : decode cX1_isLike 19 = .ok (.iload_n 3, 1) := by decide +kernel
theorem dX1_isLike_20 : decode cX1_isLike 20 = .ok (.aload_n 0, 1) := by decide +kernel
theorem dX1_isLike_21 : decode cX1_isLike 21 = .ok (.getfield 21, 3) := by decide +kernel
theorem dX1_isLike_24 : decode cX1_isLike 24 = .ok (.if_icmp .ge 32, 3) := by decide +kernel
theorem dX1_isLike_27 : decode cX1_isLike 27 = .ok (.iload_n 2, 1) := by decide +kernel
theorem dX1_isLike_28 : decode cX1_isLike 28 = .ok (.ifCond .eq 28, 3) := by decide +kernel
theorem dX1_isLike_31 : decode cX1_isLike 31 = .ok (.aload_n 0, 1) := by decide +kernel
theorem dX1_isLike_32 : decode cX1_isLike 32 = .ok (.iload_n 3, 1) := by decide +kernel
theorem dX1_isLike_33 : decode cX1_isLike 33 = .ok (.invokevirtual 29, 3) := by decide +kernel
theorem dX1_isLike_36 : decode cX1_isLike 36 = .ok (.aload_n 1, 1) := by decide +kernel
theorem dX1_isLike_37 : decode cX1_isLike 37 = .ok (.iload_n 3, 1) := by decide +kernel
theorem dX1_isLike_38 : decode cX1_isLike 38 = .ok (.invokevirtual 29, 3) := by decide +kernel
theorem dX1_isLike_41 : decode cX1_isLike 41 = .ok (.if_icmp .ne 7, 3) := by decide +kernel
theorem dX1_isLike_44 : decode cX1_isLike 44 = .ok (.iconst 1, 1) := by decide +kernel
theorem dX1_isLike_45 : decode cX1_isLike 45 = .ok (.goto 4, 3) := by decide +kernel
theorem dX1_isLike_48 : decode cX1_isLike 48 = .ok (.iconst 0, 1) := by decide +kernel
theorem dX1_isLike_49 : decode cX1_isLike 49 = .ok (.istore_n 2, 1) := by decide +kernel
theorem dX1_isLike_50 : decode cX1_isLike 50 = .ok (.iinc 3 1, 3) := by decide +kernel
theorem dX1_isLike_53 : decode cX1_isLike 53 = .ok (.goto (-34), 3) := by decide +kernel
theorem dX1_isLike_56 : decode cX1_isLike 56 = .ok (.iload_n 2, 1) := by decide +kernel
theorem dX1_isLike_57 : decode cX1_isLike 57 = .ok (.ireturn, 1) := by decide +kernel
theorem dX1_afterBlanks_0 : decode cX1_afterBlanks 0 = .ok (.iload_n 1, 1) := by decide +kernel
theorem dX1_afterBlanks_1 : decode cX1_afterBlanks 1 = .ok (.istore_n 2, 1) := by decide +kernel
theorem dX1_afterBlanks_2 : decode cX1_afterBlanks 2 = .ok (.iload_n 2, 1) := by decide +kernel
theorem dX1_afterBlanks_3 : decode cX1_afterBlanks 3 = .ok (.ifCond .lt 39, 3) := by decide +kernel
theorem dX1_afterBlanks_6 : decode cX1_afterBlanks 6 = .ok (.iload_n 2, 1) := by decide +kernel
theorem dX1_afterBlanks_7 : decode cX1_afterBlanks 7 = .ok (.aload_n 0, 1) := by decide +kernel
theorem dX1_afterBlanks_8 : decode cX1_afterBlanks 8 = .ok (.getfield 21, 3) := by decide +kernel
theorem dX1_afterBlanks_11 : decode cX1_afterBlanks 11 = .ok (.if_icmp .ge 31, 3) := by decide +kernel
theorem dX1_afterBlanks_14 : decode cX1_afterBlanks 14 = .ok (.aload_n 0, 1) := by decide +kernel
theorem dX1_afterBlanks_15 : decode cX1_afterBlanks 15 = .ok (.getfield 15, 3) := by decide +kernel
theorem dX1_afterBlanks_18 : decode cX1_afterBlanks 18 = .ok (.iload_n 2, 1) := by decide +kernel
theorem dX1_afterBlanks_19 : decode cX1_afterBlanks 19 = .ok (.baload, 1) := by decide +kernel
theorem dX1_afterBlanks_20 : decode cX1_afterBlanks 20 = .ok (.bipush 32, 2) := by decide +kernel
theorem dX1_afterBlanks_22 : decode cX1_afterBlanks 22 = .ok (.if_icmp .eq 14, 3) := by decide +kernel
theorem dX1_afterBlanks_25 : decode cX1_afterBlanks 25 = .ok (.aload_n 0, 1) := by decide +kernel
theorem dX1_afterBlanks_26 : decode cX1_afterBlanks 26 = .ok (.getfield 15, 3) := by decide +kernel
theorem dX1_afterBlanks_29 : decode cX1_afterBlanks 29 = .ok (.iload_n 2, 1) := by decide +kernel
theorem dX1_afterBlanks_30 : decode cX1_afterBlanks 30 = .ok (.baload, 1) := by decide +kernel
theorem dX1_afterBlanks_31 : decode cX1_afterBlanks 31 = .ok (.bipush 10, 2) := by decide +kernel
theorem dX1_afterBlanks_33 : decode cX1_afterBlanks 33 = .ok (.if_icmp .ne 9, 3) := by decide +kernel
theorem dX1_afterBlanks_36 : decode cX1_afterBlanks 36 = .ok (.iinc 2 1, 3) := by decide +kernel
theorem dX1_afterBlanks_39 : decode cX1_afterBlanks 39 = .ok (.goto (-37), 3) := by decide +kernel
theorem dX1_afterBlanks_42 : decode cX1_afterBlanks 42 = .ok (.iload_n 2, 1) := by decide +kernel
theorem dX1_afterBlanks_43 : decode cX1_afterBlanks 43 = .ok (.ireturn, 1) := by decide +kernel
theorem dX2_init_0 : decode cX2_init 0 = .ok (.aload_n 0, 1) := by decide +kernel
theorem dX2_init_1 : decode cX2_init 1 = .ok (.invokespecial 3, 3) := by decide +kernel
theorem dX2_init_4 : decode cX2_init 4 = .ok (.aload_n 0, 1) := by decide +kernel
theorem dX2_init_5 : decode cX2_init 5 = .ok (.new 9, 3) := by decide +kernel
theorem dX2_init_8 : decode cX2_init 8 = .ok (.dup, 1) := by decide +kernel
theorem dX2_init_9 : decode cX2_init 9 = .ok (.invokespecial 11, 3) := by decide +kernel
theorem dX2_init_12 : decode cX2_init 12 = .ok (.putfield 12, 3) := by decide +kernel
theorem dX2_init_15 : decode cX2_init 15 = .ok (.aload_n 0, 1) := by decide +kernel
theorem dX2_init_16 : decode cX2_init 16 = .ok (.ldc 18, 2) := by decide +kernel
theorem dX2_init_18 : decode cX2_init 18 = .ok (.newarray .long, 2) := by decide +kernel
theorem dX2_init_20 : decode cX2_init 20 = .ok (.putfield 19, 3) := by decide +kernel
theorem dX2_init_23 : decode cX2_init 23 = .ok (.aload_n 0, 1) := by decide +kernel
theorem dX2_init_24 : decode cX2_init 24 = .ok (.sipush 3960, 3) := by decide +kernel
theorem dX2_init_27 : decode cX2_init 27 = .ok (.newarray .long, 2) := by decide +kernel
theorem dX2_init_29 : decode cX2_init 29 = .ok (.putfield 23, 3) := by decide +kernel
theorem dX2_init_32 : decode cX2_init 32 = .ok (.return_, 1) := by decide +kernel
theorem dX2_value_0 : decode cX2_value 0 = .ok (.iload_n 1, 1) := by decide +kernel
theorem dX2_value_1 : decode cX2_value 1 = .ok (.ifCond .lt 47, 3) := by decide +kernel
theorem dX2_value_4 : decode cX2_value 4 = .ok (.iload_n 1, 1) := by decide +kernel
theorem dX2_value_5 : decode cX2_value 5 = .ok (.aload_n 0, 1) := by decide +kernel
theorem dX2_value_6 : decode cX2_value 6 = .ok (.getfield 12, 3) := by decide +kernel
theorem dX2_value_9 : decode cX2_value 9 = .ok (.getfield 26, 3) := by decide +kernel
theorem dX2_value_12 : decode cX2_value 12 = .ok (.if_icmp .ge 36, 3) := by decide +kernel
theorem dX2_value_15 : decode cX2_value 15 = .ok (.iload_n 3, 1) := by decide +kernel
theorem dX2_value_16 : decode cX2_value 16 = .ok (.ifCond .lt 32, 3) := by decide +kernel
theorem dX2_value_19 : decode cX2_value 19 = .ok (.iload_n 3, 1) := by decide +kernel
theorem dX2_value_20 : decode cX2_value 20 = .ok (.iload 5, 2) := by decide +kernel
theorem dX2_value_22 : decode cX2_value 22 = .ok (.if_icmp .gt 26, 3) := by decide +kernel
theorem dX2_value_25 : decode cX2_value 25 = .ok (.iload 5, 2) := by decide +kernel
theorem dX2_value_27 : decode cX2_value 27 = .ok (.iload 6, 2) := by decide +kernel
theorem dX2_value_29 : decode cX2_value 29 = .ok (.if_icmp .gt 19, 3) := by decide +kernel
theorem dX2_value_32 : decode cX2_value 32 = .ok (.iload 6, 2) := by decide +kernel
theorem dX2_value_34 : decode cX2_value 34 = .ok (.iload 4, 2) := by decide +kernel
theorem dX2_value_36 : decode cX2_value 36 = .ok (.if_icmp .gt 12, 3) := by decide +kernel
theorem dX2_value_39 : decode cX2_value 39 = .ok (.iload 4, 2) := by decide +kernel
theorem dX2_value_41 : decode cX2_value 41 = .ok (.aload_n 0, 1) := by decide +kernel
theorem dX2_value_42 : decode cX2_value 42 = .ok (.getfield 30, 3) := by decide +kernel
theorem dX2_value_45 : decode cX2_value 45 = .ok (.if_icmp .le 5, 3) := by decide +kernel
theorem dX2_value_48 : decode cX2_value 48 = .ok (.lconst 0, 1) := by decide +kernel
theorem dX2_value_49 : decode cX2_value 49 = .ok (.lreturn, 1) := by decide +kernel
theorem dX2_value_50 : decode cX2_value 50 = .ok (.aload_n 0, 1) := by decide +kernel
theorem dX2_value_51 : decode cX2_value 51 = .ok (.getfield 19, 3) := by decide +kernel
theorem dX2_value_54 : decode cX2_value 54 = .ok (.aload_n 0, 1) := by decide +kernel
theorem dX2_value_55 : decode cX2_value 55 = .ok (.iload_n 1, 1) := by decide +kernel
theorem dX2_value_56 : decode cX2_value 56 = .ok (.iload_n 2, 1) := by decide +kernel
theorem dX2_value_57 : decode cX2_value 57 = .ok (.invokevirtual 33, 3) := by decide +kernel
theorem dX2_value_60 : decode cX2_value 60 = .ok (.iload_n 3, 1) := by decide +kernel
theorem dX2_value_61 : decode cX2_value 61 = .ok (.iload 4, 2) := by decide +kernel
theorem dX2_value_63 : decode cX2_value 63 = .ok (.iload 5, 2) := by decide +kernel
theorem dX2_value_65 : decode cX2_value 65 = .ok (.iload 6, 2) := by decide +kernel
theorem dX2_value_67 : decode cX2_value 67 = .ok (.invokestatic 37, 3) := by decide +kernel
theorem dX2_value_70 : decode cX2_value 70 = .ok (.iadd, 1) := by decide +kernel
theorem dX2_value_71 : decode cX2_value 71 = .ok (.laload, 1) := by decide +kernel
theorem dX2_value_72 : decode cX2_value 72 = .ok (.lreturn, 1) := by decide +kernel
theorem dX2_row_0 : decode cX2_row 0 = .ok (.iconst 2, 1) := by decide +kernel
theorem dX2_row_1 : decode cX2_row 1 = .ok (.iload_n 1, 1) := by decide +kernel
theorem dX2_row_2 : decode cX2_row 2 = .ok (.imul, 1) := by decide +kernel
theorem dX2_row_3 : decode cX2_row 3 = .ok (.aload_n 0, 1) := by decide +kernel
theorem dX2_row_4 : decode cX2_row 4 = .ok (.getfield 12, 3) := by decide +kernel
theorem dX2_row_7 : decode cX2_row 7 = .ok (.getfield 41, 3) := by decide +kernel
theorem dX2_row_10 : decode cX2_row 10 = .ok (.iload_n 1, 1) := by decide +kernel
theorem dX2_row_11 : decode cX2_row 11 = .ok (.iaload, 1) := by decide +kernel
theorem dX2_row_12 : decode cX2_row 12 = .ok (.ifCond .ne 7, 3) := by decide +kernel
theorem dX2_row_15 : decode cX2_row 15 = .ok (.iload_n 2, 1) := by decide +kernel
theorem dX2_row_16 : decode cX2_row 16 = .ok (.goto 4, 3) := by decide +kernel
theorem dX2_row_19 : decode cX2_row 19 = .ok (.iconst 1, 1) := by decide +kernel
theorem dX2_row_20 : decode cX2_row 20 = .ok (.iadd, 1) := by decide +kernel
theorem dX2_row_21 : decode cX2_row 21 = .ok (.sipush 495, 3) := by decide +kernel
theorem dX2_row_24 : decode cX2_row 24 = .ok (.imul, 1) := by decide +kernel
theorem dX2_row_25 : decode cX2_row 25 = .ok (.ireturn, 1) := by decide +kernel
theorem dX2_cell_0 : decode cX2_cell 0 = .ok (.getstatic 45, 3) := by decide +kernel
theorem dX2_cell_3 : decode cX2_cell 3 = .ok (.iload_n 1, 1) := by decide +kernel
theorem dX2_cell_4 : decode cX2_cell 4 = .ok (.iaload, 1) := by decide +kernel
theorem dX2_cell_5 : decode cX2_cell 5 = .ok (.getstatic 48, 3) := by decide +kernel
theorem dX2_cell_8 : decode cX2_cell 8 = .ok (.iload_n 3, 1) := by decide +kernel
theorem dX2_cell_9 : decode cX2_cell 9 = .ok (.iaload, 1) := by decide +kernel
theorem dX2_cell_10 : decode cX2_cell 10 = .ok (.iadd, 1) := by decide +kernel
theorem dX2_cell_11 : decode cX2_cell 11 = .ok (.getstatic 51, 3) := by decide +kernel
theorem dX2_cell_14 : decode cX2_cell 14 = .ok (.iload_n 2, 1) := by decide +kernel
theorem dX2_cell_15 : decode cX2_cell 15 = .ok (.iaload, 1) := by decide +kernel
theorem dX2_cell_16 : decode cX2_cell 16 = .ok (.iadd, 1) := by decide +kernel
theorem dX2_cell_17 : decode cX2_cell 17 = .ok (.iload_n 0, 1) := by decide +kernel
theorem dX2_cell_18 : decode cX2_cell 18 = .ok (.iadd, 1) := by decide +kernel
theorem dX2_cell_19 : decode cX2_cell 19 = .ok (.ireturn, 1) := by decide +kernel
theorem dX2_fill_0 : decode cX2_fill 0 = .ok (.aload_n 0, 1) := by decide +kernel
theorem dX2_fill_1 : decode cX2_fill 1 = .ok (.aload_n 1, 1) := by decide +kernel
theorem dX2_fill_2 : decode cX2_fill 2 = .ok (.putfield 12, 3) := by decide +kernel
theorem dX2_fill_5 : decode cX2_fill 5 = .ok (.aload_n 0, 1) := by decide +kernel
theorem dX2_fill_6 : decode cX2_fill 6 = .ok (.iload_n 2, 1) := by decide +kernel
theorem dX2_fill_7 : decode cX2_fill 7 = .ok (.putfield 54, 3) := by decide +kernel
theorem dX2_fill_10 : decode cX2_fill 10 = .ok (.aload_n 0, 1) := by decide +kernel
theorem dX2_fill_11 : decode cX2_fill 11 = .ok (.iload_n 3, 1) := by decide +kernel
theorem dX2_fill_12 : decode cX2_fill 12 = .ok (.putfield 30, 3) := by decide +kernel
theorem dX2_fill_15 : decode cX2_fill 15 = .ok (.aload_n 0, 1) := by decide +kernel
theorem dX2_fill_16 : decode cX2_fill 16 = .ok (.aload 4, 2) := by decide +kernel
theorem dX2_fill_18 : decode cX2_fill 18 = .ok (.putfield 57, 3) := by decide +kernel
theorem dX2_fill_21 : decode cX2_fill 21 = .ok (.aload_n 0, 1) := by decide +kernel
theorem dX2_fill_22 : decode cX2_fill 22 = .ok (.invokevirtual 61, 3) := by decide +kernel
theorem dX2_fill_25 : decode cX2_fill 25 = .ok (.iconst 0, 1) := by decide +kernel
theorem dX2_fill_26 : decode cX2_fill 26 = .ok (.istore 5, 2) := by decide +kernel
theorem dX2_fill_28 : decode cX2_fill 28 = .ok (.iload 5, 2) := by decide +kernel
theorem dX2_fill_30 : decode cX2_fill 30 = .ok (.aload_n 0, 1) := by decide +kernel
theorem dX2_fill_31 : decode cX2_fill 31 = .ok (.getfield 30, 3) := by decide +kernel
theorem dX2_fill_34 : decode cX2_fill 34 = .ok (.if_icmp .gt 147, 3) := by decide +kernel
theorem dX2_fill_37 : decode cX2_fill 37 = .ok (.iconst 0, 1) := by decide +kernel
theorem dX2_fill_38 : decode cX2_fill 38 = .ok (.istore 6, 2) := by decide +kernel
theorem dX2_fill_40 : decode cX2_fill 40 = .ok (.iload 6, 2) := by decide +kernel
theorem dX2_fill_42 : decode cX2_fill 42 = .ok (.aload_n 0, 1) := by decide +kernel
theorem dX2_fill_43 : decode cX2_fill 43 = .ok (.getfield 12, 3) := by decide +kernel
theorem dX2_fill_46 : decode cX2_fill 46 = .ok (.getfield 26, 3) := by decide +kernel
theorem dX2_fill_49 : decode cX2_fill 49 = .ok (.if_icmp .ge 126, 3) := by decide +kernel
theorem dX2_fill_52 : decode cX2_fill 52 = .ok (.aload_n 0, 1) := by decide +kernel
theorem dX2_fill_53 : decode cX2_fill 53 = .ok (.getfield 12, 3) := by decide +kernel
theorem dX2_fill_56 : decode cX2_fill 56 = .ok (.getfield 64, 3) := by decide +kernel
theorem dX2_fill_59 : decode cX2_fill 59 = .ok (.iload 6, 2) := by decide +kernel
theorem dX2_fill_61 : decode cX2_fill 61 = .ok (.iaload, 1) := by decide +kernel
theorem dX2_fill_62 : decode cX2_fill 62 = .ok (.istore 7, 2) := by decide +kernel
theorem dX2_fill_64 : decode cX2_fill 64 = .ok (.aload_n 0, 1) := by decide +kernel
theorem dX2_fill_65 : decode cX2_fill 65 = .ok (.aload_n 0, 1) := by decide +kernel
theorem dX2_fill_66 : decode cX2_fill 66 = .ok (.getfield 12, 3) := by decide +kernel
theorem dX2_fill_69 : decode cX2_fill 69 = .ok (.getfield 67, 3) := by decide +kernel
theorem dX2_fill_72 : decode cX2_fill 72 = .ok (.iload 7, 2) := by decide +kernel
theorem dX2_fill_74 : decode cX2_fill 74 = .ok (.iaload, 1) := by decide +kernel
theorem dX2_fill_75 : decode cX2_fill 75 = .ok (.invokevirtual 70, 3) := by decide +kernel
theorem dX2_fill_78 : decode cX2_fill 78 = .ok (.ifCond .eq 91, 3) := by decide +kernel
theorem dX2_fill_81 : decode cX2_fill 81 = .ok (.aload_n 0, 1) := by decide +kernel
theorem dX2_fill_82 : decode cX2_fill 82 = .ok (.getfield 12, 3) := by decide +kernel
theorem dX2_fill_85 : decode cX2_fill 85 = .ok (.getfield 74, 3) := by decide +kernel
theorem dX2_fill_88 : decode cX2_fill 88 = .ok (.iload 7, 2) := by decide +kernel
theorem dX2_fill_90 : decode cX2_fill 90 = .ok (.iaload, 1) := by decide +kernel
theorem dX2_fill_91 : decode cX2_fill 91 = .ok (.iload 5, 2) := by decide +kernel
theorem dX2_fill_93 : decode cX2_fill 93 = .ok (.if_icmp .le 6, 3) := by decide +kernel
theorem dX2_fill_96 : decode cX2_fill 96 = .ok (.goto 73, 3) := by decide +kernel
theorem dX2_fill_99 : decode cX2_fill 99 = .ok (.aload_n 0, 1) := by decide +kernel
theorem dX2_fill_100 : decode cX2_fill 100 = .ok (.getfield 12, 3) := by decide +kernel
theorem dX2_fill_103 : decode cX2_fill 103 = .ok (.getfield 41, 3) := by decide +kernel
theorem dX2_fill_106 : decode cX2_fill 106 = .ok (.iload 7, 2) := by decide +kernel
theorem dX2_fill_108 : decode cX2_fill 108 = .ok (.iaload, 1) := by decide +kernel
theorem dX2_fill_109 : decode cX2_fill 109 = .ok (.ifCond .ne 14, 3) := by decide +kernel
theorem dX2_fill_112 : decode cX2_fill 112 = .ok (.aload_n 0, 1) := by decide +kernel
theorem dX2_fill_113 : decode cX2_fill 113 = .ok (.iload 7, 2) := by decide +kernel
theorem dX2_fill_115 : decode cX2_fill 115 = .ok (.iload 5, 2) := by decide +kernel
theorem dX2_fill_117 : decode cX2_fill 117 = .ok (.invokevirtual 77, 3) := by decide +kernel
theorem dX2_fill_120 : decode cX2_fill 120 = .ok (.goto 49, 3) := by decide +kernel
theorem dX2_fill_123 : decode cX2_fill 123 = .ok (.aload_n 0, 1) := by decide +kernel
theorem dX2_fill_124 : decode cX2_fill 124 = .ok (.getfield 12, 3) := by decide +kernel
theorem dX2_fill_127 : decode cX2_fill 127 = .ok (.getfield 41, 3) := by decide +kernel
theorem dX2_fill_130 : decode cX2_fill 130 = .ok (.iload 7, 2) := by decide +kernel
theorem dX2_fill_132 : decode cX2_fill 132 = .ok (.iaload, 1) := by decide +kernel
theorem dX2_fill_133 : decode cX2_fill 133 = .ok (.iconst 4, 1) := by decide +kernel
theorem dX2_fill_134 : decode cX2_fill 134 = .ok (.if_icmp .ne 14, 3) := by decide +kernel
theorem dX2_fill_137 : decode cX2_fill 137 = .ok (.aload_n 0, 1) := by decide +kernel
theorem dX2_fill_138 : decode cX2_fill 138 = .ok (.iload 7, 2) := by decide +kernel
theorem dX2_fill_140 : decode cX2_fill 140 = .ok (.iload 5, 2) := by decide +kernel
theorem dX2_fill_142 : decode cX2_fill 142 = .ok (.invokevirtual 81, 3) := by decide +kernel
theorem dX2_fill_145 : decode cX2_fill 145 = .ok (.goto 24, 3) := by decide +kernel
theorem dX2_fill_148 : decode cX2_fill 148 = .ok (.aload_n 0, 1) := by decide +kernel
theorem dX2_fill_149 : decode cX2_fill 149 = .ok (.getfield 12, 3) := by decide +kernel
theorem dX2_fill_152 : decode cX2_fill 152 = .ok (.getfield 74, 3) := by decide +kernel
theorem dX2_fill_155 : decode cX2_fill 155 = .ok (.iload 7, 2) := by decide +kernel
theorem dX2_fill_157 : decode cX2_fill 157 = .ok (.iaload, 1) := by decide +kernel
theorem dX2_fill_158 : decode cX2_fill 158 = .ok (.iload 5, 2) := by decide +kernel
theorem dX2_fill_160 : decode cX2_fill 160 = .ok (.if_icmp .ne 9, 3) := by decide +kernel
theorem dX2_fill_163 : decode cX2_fill 163 = .ok (.aload_n 0, 1) := by decide +kernel
theorem dX2_fill_164 : decode cX2_fill 164 = .ok (.iload 7, 2) := by decide +kernel
theorem dX2_fill_166 : decode cX2_fill 166 = .ok (.invokevirtual 84, 3) := by decide +kernel
theorem dX2_fill_169 : decode cX2_fill 169 = .ok (.iinc 6 1, 3) := by decide +kernel
theorem dX2_fill_172 : decode cX2_fill 172 = .ok (.goto (-132), 3) := by decide +kernel
theorem dX2_fill_175 : decode cX2_fill 175 = .ok (.iinc 5 1, 3) := by decide +kernel
theorem dX2_fill_178 : decode cX2_fill 178 = .ok (.goto (-150), 3) := by decide +kernel
theorem dX2_fill_181 : decode cX2_fill 181 = .ok (.return_, 1) := by decide +kernel
theorem dX2_clear_0 : decode cX2_clear 0 = .ok (.getstatic 45, 3) := by decide +kernel
theorem dX2_clear_3 : decode cX2_clear 3 = .ok (.aload_n 0, 1) := by decide +kernel
theorem dX2_clear_4 : decode cX2_clear 4 = .ok (.getfield 30, 3) := by decide +kernel
theorem dX2_clear_7 : decode cX2_clear 7 = .ok (.iconst 1, 1) := by decide +kernel
theorem dX2_clear_8 : decode cX2_clear 8 = .ok (.iadd, 1) := by decide +kernel
theorem dX2_clear_9 : decode cX2_clear 9 = .ok (.iaload, 1) := by decide +kernel
theorem dX2_clear_10 : decode cX2_clear 10 = .ok (.istore_n 1, 1) := by decide +kernel
theorem dX2_clear_11 : decode cX2_clear 11 = .ok (.iconst 0, 1) := by decide +kernel
theorem dX2_clear_12 : decode cX2_clear 12 = .ok (.istore_n 2, 1) := by decide +kernel
theorem dX2_clear_13 : decode cX2_clear 13 = .ok (.iload_n 2, 1) := by decide +kernel
theorem dX2_clear_14 : decode cX2_clear 14 = .ok (.iconst 2, 1) := by decide +kernel
theorem dX2_clear_15 : decode cX2_clear 15 = .ok (.aload_n 0, 1) := by decide +kernel
theorem dX2_clear_16 : decode cX2_clear 16 = .ok (.getfield 12, 3) := by decide +kernel
theorem dX2_clear_19 : decode cX2_clear 19 = .ok (.getfield 26, 3) := by decide +kernel
theorem dX2_clear_22 : decode cX2_clear 22 = .ok (.imul, 1) := by decide +kernel
theorem dX2_clear_23 : decode cX2_clear 23 = .ok (.if_icmp .ge 29, 3) := by decide +kernel
theorem dX2_clear_26 : decode cX2_clear 26 = .ok (.aload_n 0, 1) := by decide +kernel
theorem dX2_clear_27 : decode cX2_clear 27 = .ok (.getfield 19, 3) := by decide +kernel
theorem dX2_clear_30 : decode cX2_clear 30 = .ok (.iload_n 2, 1) := by decide +kernel
theorem dX2_clear_31 : decode cX2_clear 31 = .ok (.sipush 495, 3) := by decide +kernel
theorem dX2_clear_34 : decode cX2_clear 34 = .ok (.imul, 1) := by decide +kernel
theorem dX2_clear_35 : decode cX2_clear 35 = .ok (.iload_n 2, 1) := by decide +kernel
theorem dX2_clear_36 : decode cX2_clear 36 = .ok (.sipush 495, 3) := by decide +kernel
theorem dX2_clear_39 : decode cX2_clear 39 = .ok (.imul, 1) := by decide +kernel
theorem dX2_clear_40 : decode cX2_clear 40 = .ok (.iload_n 1, 1) := by decide +kernel
theorem dX2_clear_41 : decode cX2_clear 41 = .ok (.iadd, 1) := by decide +kernel
theorem dX2_clear_42 : decode cX2_clear 42 = .ok (.lconst 0, 1) := by decide +kernel
theorem dX2_clear_43 : decode cX2_clear 43 = .ok (.invokestatic 88, 3) := by decide +kernel
theorem dX2_clear_46 : decode cX2_clear 46 = .ok (.iinc 2 1, 3) := by decide +kernel
theorem dX2_clear_49 : decode cX2_clear 49 = .ok (.goto (-36), 3) := by decide +kernel
theorem dX2_clear_52 : decode cX2_clear 52 = .ok (.iconst 0, 1) := by decide +kernel
theorem dX2_clear_53 : decode cX2_clear 53 = .ok (.istore_n 2, 1) := by decide +kernel
theorem dX2_clear_54 : decode cX2_clear 54 = .ok (.iload_n 2, 1) := by decide +kernel
theorem dX2_clear_55 : decode cX2_clear 55 = .ok (.aload_n 0, 1) := by decide +kernel
theorem dX2_clear_56 : decode cX2_clear 56 = .ok (.getfield 12, 3) := by decide +kernel
theorem dX2_clear_59 : decode cX2_clear 59 = .ok (.getfield 94, 3) := by decide +kernel
theorem dX2_clear_62 : decode cX2_clear 62 = .ok (.if_icmp .ge 29, 3) := by decide +kernel
theorem dX2_clear_65 : decode cX2_clear 65 = .ok (.aload_n 0, 1) := by decide +kernel
theorem dX2_clear_66 : decode cX2_clear 66 = .ok (.getfield 23, 3) := by decide +kernel
theorem dX2_clear_69 : decode cX2_clear 69 = .ok (.iload_n 2, 1) := by decide +kernel
theorem dX2_clear_70 : decode cX2_clear 70 = .ok (.sipush 495, 3) := by decide +kernel
theorem dX2_clear_73 : decode cX2_clear 73 = .ok (.imul, 1) := by decide +kernel
theorem dX2_clear_74 : decode cX2_clear 74 = .ok (.iload_n 2, 1) := by decide +kernel
theorem dX2_clear_75 : decode cX2_clear 75 = .ok (.sipush 495, 3) := by decide +kernel
theorem dX2_clear_78 : decode cX2_clear 78 = .ok (.imul, 1) := by decide +kernel
theorem dX2_clear_79 : decode cX2_clear 79 = .ok (.iload_n 1, 1) := by decide +kernel
theorem dX2_clear_80 : decode cX2_clear 80 = .ok (.iadd, 1) := by decide +kernel
theorem dX2_clear_81 : decode cX2_clear 81 = .ok (.lconst 0, 1) := by decide +kernel
theorem dX2_clear_82 : decode cX2_clear 82 = .ok (.invokestatic 88, 3) := by decide +kernel
theorem dX2_clear_85 : decode cX2_clear 85 = .ok (.iinc 2 1, 3) := by decide +kernel
theorem dX2_clear_88 : decode cX2_clear 88 = .ok (.goto (-34), 3) := by decide +kernel
theorem dX2_clear_91 : decode cX2_clear 91 = .ok (.return_, 1) := by decide +kernel
theorem dX2_isThere_0 : decode cX2_isThere 0 = .ok (.aload_n 0, 1) := by decide +kernel
theorem dX2_isThere_1 : decode cX2_isThere 1 = .ok (.getfield 54, 3) := by decide +kernel
theorem dX2_isThere_4 : decode cX2_isThere 4 = .ok (.iload_n 1, 1) := by decide +kernel
theorem dX2_isThere_5 : decode cX2_isThere 5 = .ok (.ishr, 1) := by decide +kernel
theorem dX2_isThere_6 : decode cX2_isThere 6 = .ok (.iconst 1, 1) := by decide +kernel
theorem dX2_isThere_7 : decode cX2_isThere 7 = .ok (.iand, 1) := by decide +kernel
theorem dX2_isThere_8 : decode cX2_isThere 8 = .ok (.ifCond .ne 7, 3) := by decide +kernel
theorem dX2_isThere_11 : decode cX2_isThere 11 = .ok (.iconst 1, 1) := by decide +kernel
theorem dX2_isThere_12 : decode cX2_isThere 12 = .ok (.goto 4, 3) := by decide +kernel
theorem dX2_isThere_15 : decode cX2_isThere 15 = .ok (.iconst 0, 1) := by decide +kernel
theorem dX2_isThere_16 : decode cX2_isThere 16 = .ok (.ireturn, 1) := by decide +kernel
theorem dX2_fillSign_0 : decode cX2_fillSign 0 = .ok (.aload_n 0, 1) := by decide +kernel
theorem dX2_fillSign_1 : decode cX2_fillSign 1 = .ok (.iload_n 1, 1) := by decide +kernel
theorem dX2_fillSign_2 : decode cX2_fillSign 2 = .ok (.iconst 1, 1) := by decide +kernel
theorem dX2_fillSign_3 : decode cX2_fillSign 3 = .ok (.invokevirtual 33, 3) := by decide +kernel
theorem dX2_fillSign_6 : decode cX2_fillSign 6 = .ok (.istore_n 2, 1) := by decide +kernel
theorem dX2_fillSign_7 : decode cX2_fillSign 7 = .ok (.iconst 0, 1) := by decide +kernel
theorem dX2_fillSign_8 : decode cX2_fillSign 8 = .ok (.istore_n 3, 1) := by decide +kernel
theorem dX2_fillSign_9 : decode cX2_fillSign 9 = .ok (.iload_n 3, 1) := by decide +kernel
theorem dX2_fillSign_10 : decode cX2_fillSign 10 = .ok (.aload_n 0, 1) := by decide +kernel
theorem dX2_fillSign_11 : decode cX2_fillSign 11 = .ok (.getfield 30, 3) := by decide +kernel
theorem dX2_fillSign_14 : decode cX2_fillSign 14 = .ok (.if_icmp .gt 150, 3) := by decide +kernel
theorem dX2_fillSign_17 : decode cX2_fillSign 17 = .ok (.aload_n 0, 1) := by decide +kernel
theorem dX2_fillSign_18 : decode cX2_fillSign 18 = .ok (.getfield 12, 3) := by decide +kernel
theorem dX2_fillSign_21 : decode cX2_fillSign 21 = .ok (.getfield 41, 3) := by decide +kernel
theorem dX2_fillSign_24 : decode cX2_fillSign 24 = .ok (.iload_n 1, 1) := by decide +kernel
theorem dX2_fillSign_25 : decode cX2_fillSign 25 = .ok (.iaload, 1) := by decide +kernel
theorem dX2_fillSign_26 : decode cX2_fillSign 26 = .ok (.iconst 2, 1) := by decide +kernel
theorem dX2_fillSign_27 : decode cX2_fillSign 27 = .ok (.if_icmp .ne 27, 3) := by decide +kernel
theorem dX2_fillSign_30 : decode cX2_fillSign 30 = .ok (.aload_n 0, 1) := by decide +kernel
theorem dX2_fillSign_31 : decode cX2_fillSign 31 = .ok (.getfield 19, 3) := by decide +kernel
theorem dX2_fillSign_34 : decode cX2_fillSign 34 = .ok (.iload_n 2, 1) := by decide +kernel
theorem dX2_fillSign_35 : decode cX2_fillSign 35 = .ok (.iload_n 3, 1) := by decide +kernel
theorem dX2_fillSign_36 : decode cX2_fillSign 36 = .ok (.iload_n 3, 1) := by decide +kernel
theorem dX2_fillSign_37 : decode cX2_fillSign 37 = .ok (.iload_n 3, 1) := by decide +kernel
theorem dX2_fillSign_38 : decode cX2_fillSign 38 = .ok (.iload_n 3, 1) := by decide +kernel
theorem dX2_fillSign_39 : decode cX2_fillSign 39 = .ok (.invokestatic 37, 3) := by decide +kernel
theorem dX2_fillSign_42 : decode cX2_fillSign 42 = .ok (.iadd, 1) := by decide +kernel
theorem dX2_fillSign_43 : decode cX2_fillSign 43 = .ok (.aload_n 0, 1) := by decide +kernel
theorem dX2_fillSign_44 : decode cX2_fillSign 44 = .ok (.getfield 57, 3) := by decide +kernel
theorem dX2_fillSign_47 : decode cX2_fillSign 47 = .ok (.invokevirtual 96, 3) := by decide +kernel
theorem dX2_fillSign_50 : decode cX2_fillSign 50 = .ok (.lastore, 1) := by decide +kernel
theorem dX2_fillSign_51 : decode cX2_fillSign 51 = .ok (.goto 107, 3) := by decide +kernel
theorem dX2_fillSign_54 : decode cX2_fillSign 54 = .ok (.aload_n 0, 1) := by decide +kernel
theorem dX2_fillSign_55 : decode cX2_fillSign 55 = .ok (.getfield 12, 3) := by decide +kernel
theorem dX2_fillSign_58 : decode cX2_fillSign 58 = .ok (.getfield 41, 3) := by decide +kernel
theorem dX2_fillSign_61 : decode cX2_fillSign 61 = .ok (.iload_n 1, 1) := by decide +kernel
theorem dX2_fillSign_62 : decode cX2_fillSign 62 = .ok (.iaload, 1) := by decide +kernel
theorem dX2_fillSign_63 : decode cX2_fillSign 63 = .ok (.iconst 3, 1) := by decide +kernel
theorem dX2_fillSign_64 : decode cX2_fillSign 64 = .ok (.if_icmp .ne 47, 3) := by decide +kernel
theorem dX2_fillSign_67 : decode cX2_fillSign 67 = .ok (.iload_n 3, 1) := by decide +kernel
theorem dX2_fillSign_68 : decode cX2_fillSign 68 = .ok (.istore 4, 2) := by decide +kernel
theorem dX2_fillSign_70 : decode cX2_fillSign 70 = .ok (.iload 4, 2) := by decide +kernel
theorem dX2_fillSign_72 : decode cX2_fillSign 72 = .ok (.aload_n 0, 1) := by decide +kernel
theorem dX2_fillSign_73 : decode cX2_fillSign 73 = .ok (.getfield 30, 3) := by decide +kernel
theorem dX2_fillSign_76 : decode cX2_fillSign 76 = .ok (.if_icmp .gt 32, 3) := by decide +kernel
theorem dX2_fillSign_79 : decode cX2_fillSign 79 = .ok (.aload_n 0, 1) := by decide +kernel
theorem dX2_fillSign_80 : decode cX2_fillSign 80 = .ok (.getfield 19, 3) := by decide +kernel
theorem dX2_fillSign_83 : decode cX2_fillSign 83 = .ok (.iload_n 2, 1) := by decide +kernel
theorem dX2_fillSign_84 : decode cX2_fillSign 84 = .ok (.iload_n 3, 1) := by decide +kernel
theorem dX2_fillSign_85 : decode cX2_fillSign 85 = .ok (.iload 4, 2) := by decide +kernel
theorem dX2_fillSign_87 : decode cX2_fillSign 87 = .ok (.iload_n 3, 1) := by decide +kernel
theorem dX2_fillSign_88 : decode cX2_fillSign 88 = .ok (.iload 4, 2) := by decide +kernel
theorem dX2_fillSign_90 : decode cX2_fillSign 90 = .ok (.invokestatic 37, 3) := by decide +kernel
theorem dX2_fillSign_93 : decode cX2_fillSign 93 = .ok (.iadd, 1) := by decide +kernel
theorem dX2_fillSign_94 : decode cX2_fillSign 94 = .ok (.aload_n 0, 1) := by decide +kernel
theorem dX2_fillSign_95 : decode cX2_fillSign 95 = .ok (.getfield 57, 3) := by decide +kernel
theorem dX2_fillSign_98 : decode cX2_fillSign 98 = .ok (.invokevirtual 96, 3) := by decide +kernel
theorem dX2_fillSign_101 : decode cX2_fillSign 101 = .ok (.lastore, 1) := by decide +kernel
theorem dX2_fillSign_102 : decode cX2_fillSign 102 = .ok (.iinc 4 1, 3) := by decide +kernel
theorem dX2_fillSign_105 : decode cX2_fillSign 105 = .ok (.goto (-35), 3) := by decide +kernel
theorem dX2_fillSign_108 : decode cX2_fillSign 108 = .ok (.goto 50, 3) := by decide +kernel
theorem dX2_fillSign_111 : decode cX2_fillSign 111 = .ok (.iload_n 3, 1) := by decide +kernel
theorem dX2_fillSign_112 : decode cX2_fillSign 112 = .ok (.aload_n 0, 1) := by decide +kernel
theorem dX2_fillSign_113 : decode cX2_fillSign 113 = .ok (.getfield 30, 3) := by decide +kernel
theorem dX2_fillSign_116 : decode cX2_fillSign 116 = .ok (.if_icmp .ge 42, 3) := by decide +kernel
theorem dX2_fillSign_119 : decode cX2_fillSign 119 = .ok (.iload_n 3, 1) := by decide +kernel
theorem dX2_fillSign_120 : decode cX2_fillSign 120 = .ok (.iconst 1, 1) := by decide +kernel
theorem dX2_fillSign_121 : decode cX2_fillSign 121 = .ok (.iadd, 1) := by decide +kernel
theorem dX2_fillSign_122 : decode cX2_fillSign 122 = .ok (.istore 4, 2) := by decide +kernel
theorem dX2_fillSign_124 : decode cX2_fillSign 124 = .ok (.aload_n 0, 1) := by decide +kernel
theorem dX2_fillSign_125 : decode cX2_fillSign 125 = .ok (.getfield 19, 3) := by decide +kernel
theorem dX2_fillSign_128 : decode cX2_fillSign 128 = .ok (.iload_n 2, 1) := by decide +kernel
theorem dX2_fillSign_129 : decode cX2_fillSign 129 = .ok (.iload_n 3, 1) := by decide +kernel
theorem dX2_fillSign_130 : decode cX2_fillSign 130 = .ok (.iload 4, 2) := by decide +kernel
theorem dX2_fillSign_132 : decode cX2_fillSign 132 = .ok (.iload 4, 2) := by decide +kernel
theorem dX2_fillSign_134 : decode cX2_fillSign 134 = .ok (.iload 4, 2) := by decide +kernel
theorem dX2_fillSign_136 : decode cX2_fillSign 136 = .ok (.invokestatic 37, 3) := by decide +kernel
theorem dX2_fillSign_139 : decode cX2_fillSign 139 = .ok (.iadd, 1) := by decide +kernel
theorem dX2_fillSign_140 : decode cX2_fillSign 140 = .ok (.aload_n 0, 1) := by decide +kernel
theorem dX2_fillSign_141 : decode cX2_fillSign 141 = .ok (.getfield 57, 3) := by decide +kernel
theorem dX2_fillSign_144 : decode cX2_fillSign 144 = .ok (.iload_n 3, 1) := by decide +kernel
theorem dX2_fillSign_145 : decode cX2_fillSign 145 = .ok (.aload_n 0, 1) := by decide +kernel
theorem dX2_fillSign_146 : decode cX2_fillSign 146 = .ok (.getfield 12, 3) := by decide +kernel
theorem dX2_fillSign_149 : decode cX2_fillSign 149 = .ok (.getfield 102, 3) := by decide +kernel
theorem dX2_fillSign_152 : decode cX2_fillSign 152 = .ok (.iload_n 1, 1) := by decide +kernel
theorem dX2_fillSign_153 : decode cX2_fillSign 153 = .ok (.iaload, 1) := by decide +kernel
theorem dX2_fillSign_154 : decode cX2_fillSign 154 = .ok (.invokevirtual 105, 3) := by decide +kernel
theorem dX2_fillSign_157 : decode cX2_fillSign 157 = .ok (.lastore, 1) := by decide +kernel
theorem dX2_fillSign_158 : decode cX2_fillSign 158 = .ok (.iinc 3 1, 3) := by decide +kernel
theorem dX2_fillSign_161 : decode cX2_fillSign 161 = .ok (.goto (-152), 3) := by decide +kernel
theorem dX2_fillSign_164 : decode cX2_fillSign 164 = .ok (.return_, 1) := by decide +kernel
theorem dX2_fillPlace_0 : decode cX2_fillPlace 0 = .ok (.aload_n 0, 1) := by decide +kernel
theorem dX2_fillPlace_1 : decode cX2_fillPlace 1 = .ok (.iload_n 1, 1) := by decide +kernel
theorem dX2_fillPlace_2 : decode cX2_fillPlace 2 = .ok (.iconst 1, 1) := by decide +kernel
theorem dX2_fillPlace_3 : decode cX2_fillPlace 3 = .ok (.invokevirtual 33, 3) := by decide +kernel
theorem dX2_fillPlace_6 : decode cX2_fillPlace 6 = .ok (.istore_n 3, 1) := by decide +kernel
theorem dX2_fillPlace_7 : decode cX2_fillPlace 7 = .ok (.aload_n 0, 1) := by decide +kernel
theorem dX2_fillPlace_8 : decode cX2_fillPlace 8 = .ok (.getfield 12, 3) := by decide +kernel
theorem dX2_fillPlace_11 : decode cX2_fillPlace 11 = .ok (.getfield 109, 3) := by decide +kernel
theorem dX2_fillPlace_14 : decode cX2_fillPlace 14 = .ok (.aload_n 0, 1) := by decide +kernel
theorem dX2_fillPlace_15 : decode cX2_fillPlace 15 = .ok (.getfield 12, 3) := by decide +kernel
theorem dX2_fillPlace_18 : decode cX2_fillPlace 18 = .ok (.getfield 102, 3) := by decide +kernel
theorem dX2_fillPlace_21 : decode cX2_fillPlace 21 = .ok (.iload_n 1, 1) := by decide +kernel
theorem dX2_fillPlace_22 : decode cX2_fillPlace 22 = .ok (.iaload, 1) := by decide +kernel
theorem dX2_fillPlace_23 : decode cX2_fillPlace 23 = .ok (.iaload, 1) := by decide +kernel
theorem dX2_fillPlace_24 : decode cX2_fillPlace 24 = .ok (.istore 4, 2) := by decide +kernel
theorem dX2_fillPlace_26 : decode cX2_fillPlace 26 = .ok (.iconst 0, 1) := by decide +kernel
theorem dX2_fillPlace_27 : decode cX2_fillPlace 27 = .ok (.istore 5, 2) := by decide +kernel
theorem dX2_fillPlace_29 : decode cX2_fillPlace 29 = .ok (.iload 5, 2) := by decide +kernel
theorem dX2_fillPlace_31 : decode cX2_fillPlace 31 = .ok (.iload_n 2, 1) := by decide +kernel
theorem dX2_fillPlace_32 : decode cX2_fillPlace 32 = .ok (.iadd, 1) := by decide +kernel
theorem dX2_fillPlace_33 : decode cX2_fillPlace 33 = .ok (.aload_n 0, 1) := by decide +kernel
theorem dX2_fillPlace_34 : decode cX2_fillPlace 34 = .ok (.getfield 30, 3) := by decide +kernel
theorem dX2_fillPlace_37 : decode cX2_fillPlace 37 = .ok (.if_icmp .gt 43, 3) := by decide +kernel
theorem dX2_fillPlace_40 : decode cX2_fillPlace 40 = .ok (.iload 5, 2) := by decide +kernel
theorem dX2_fillPlace_42 : decode cX2_fillPlace 42 = .ok (.iload_n 2, 1) := by decide +kernel
theorem dX2_fillPlace_43 : decode cX2_fillPlace 43 = .ok (.iadd, 1) := by decide +kernel
theorem dX2_fillPlace_44 : decode cX2_fillPlace 44 = .ok (.istore 6, 2) := by decide +kernel
theorem dX2_fillPlace_46 : decode cX2_fillPlace 46 = .ok (.aload_n 0, 1) := by decide +kernel
theorem dX2_fillPlace_47 : decode cX2_fillPlace 47 = .ok (.getfield 19, 3) := by decide +kernel
theorem dX2_fillPlace_50 : decode cX2_fillPlace 50 = .ok (.iload_n 3, 1) := by decide +kernel
theorem dX2_fillPlace_51 : decode cX2_fillPlace 51 = .ok (.iload 5, 2) := by decide +kernel
theorem dX2_fillPlace_53 : decode cX2_fillPlace 53 = .ok (.iload 6, 2) := by decide +kernel
theorem dX2_fillPlace_55 : decode cX2_fillPlace 55 = .ok (.iload 6, 2) := by decide +kernel
theorem dX2_fillPlace_57 : decode cX2_fillPlace 57 = .ok (.iload 6, 2) := by decide +kernel
theorem dX2_fillPlace_59 : decode cX2_fillPlace 59 = .ok (.invokestatic 37, 3) := by decide +kernel
theorem dX2_fillPlace_62 : decode cX2_fillPlace 62 = .ok (.iadd, 1) := by decide +kernel
theorem dX2_fillPlace_63 : decode cX2_fillPlace 63 = .ok (.aload_n 0, 1) := by decide +kernel
theorem dX2_fillPlace_64 : decode cX2_fillPlace 64 = .ok (.iload 4, 2) := by decide +kernel
theorem dX2_fillPlace_66 : decode cX2_fillPlace 66 = .ok (.iload 5, 2) := by decide +kernel
theorem dX2_fillPlace_68 : decode cX2_fillPlace 68 = .ok (.iload 6, 2) := by decide +kernel
theorem dX2_fillPlace_70 : decode cX2_fillPlace 70 = .ok (.invokevirtual 112, 3) := by decide +kernel
theorem dX2_fillPlace_73 : decode cX2_fillPlace 73 = .ok (.lastore, 1) := by decide +kernel
theorem dX2_fillPlace_74 : decode cX2_fillPlace 74 = .ok (.iinc 5 1, 3) := by decide +kernel
theorem dX2_fillPlace_77 : decode cX2_fillPlace 77 = .ok (.goto (-48), 3) := by decide +kernel
theorem dX2_fillPlace_80 : decode cX2_fillPlace 80 = .ok (.return_, 1) := by decide +kernel
theorem dX2_hostsOver_0 : decode cX2_hostsOver 0 = .ok (.lconst 0, 1) := by decide +kernel
theorem dX2_hostsOver_1 : decode cX2_hostsOver 1 = .ok (.lstore 4, 2) := by decide +kernel
theorem dX2_hostsOver_3 : decode cX2_hostsOver 3 = .ok (.iconst 0, 1) := by decide +kernel
theorem dX2_hostsOver_4 : decode cX2_hostsOver 4 = .ok (.istore 6, 2) := by decide +kernel
theorem dX2_hostsOver_6 : decode cX2_hostsOver 6 = .ok (.iload 6, 2) := by decide +kernel
theorem dX2_hostsOver_8 : decode cX2_hostsOver 8 = .ok (.aload_n 0, 1) := by decide +kernel
theorem dX2_hostsOver_9 : decode cX2_hostsOver 9 = .ok (.getfield 12, 3) := by decide +kernel
theorem dX2_hostsOver_12 : decode cX2_hostsOver 12 = .ok (.getfield 94, 3) := by decide +kernel
theorem dX2_hostsOver_15 : decode cX2_hostsOver 15 = .ok (.if_icmp .ge 74, 3) := by decide +kernel
theorem dX2_hostsOver_18 : decode cX2_hostsOver 18 = .ok (.iload_n 1, 1) := by decide +kernel
theorem dX2_hostsOver_19 : decode cX2_hostsOver 19 = .ok (.iload 6, 2) := by decide +kernel
theorem dX2_hostsOver_21 : decode cX2_hostsOver 21 = .ok (.ishr, 1) := by decide +kernel
theorem dX2_hostsOver_22 : decode cX2_hostsOver 22 = .ok (.iconst 1, 1) := by decide +kernel
theorem dX2_hostsOver_23 : decode cX2_hostsOver 23 = .ok (.iand, 1) := by decide +kernel
theorem dX2_hostsOver_24 : decode cX2_hostsOver 24 = .ok (.iconst 1, 1) := by decide +kernel
theorem dX2_hostsOver_25 : decode cX2_hostsOver 25 = .ok (.if_icmp .ne 58, 3) := by decide +kernel
theorem dX2_hostsOver_28 : decode cX2_hostsOver 28 = .ok (.aload_n 0, 1) := by decide +kernel
theorem dX2_hostsOver_29 : decode cX2_hostsOver 29 = .ok (.aload_n 0, 1) := by decide +kernel
theorem dX2_hostsOver_30 : decode cX2_hostsOver 30 = .ok (.getfield 12, 3) := by decide +kernel
theorem dX2_hostsOver_33 : decode cX2_hostsOver 33 = .ok (.getfield 116, 3) := by decide +kernel
theorem dX2_hostsOver_36 : decode cX2_hostsOver 36 = .ok (.iload 6, 2) := by decide +kernel
theorem dX2_hostsOver_38 : decode cX2_hostsOver 38 = .ok (.iaload, 1) := by decide +kernel
theorem dX2_hostsOver_39 : decode cX2_hostsOver 39 = .ok (.iconst 1, 1) := by decide +kernel
theorem dX2_hostsOver_40 : decode cX2_hostsOver 40 = .ok (.iload_n 2, 1) := by decide +kernel
theorem dX2_hostsOver_41 : decode cX2_hostsOver 41 = .ok (.iload_n 3, 1) := by decide +kernel
theorem dX2_hostsOver_42 : decode cX2_hostsOver 42 = .ok (.iload_n 3, 1) := by decide +kernel
theorem dX2_hostsOver_43 : decode cX2_hostsOver 43 = .ok (.iload_n 3, 1) := by decide +kernel
theorem dX2_hostsOver_44 : decode cX2_hostsOver 44 = .ok (.invokevirtual 119, 3) := by decide +kernel
theorem dX2_hostsOver_47 : decode cX2_hostsOver 47 = .ok (.lstore 7, 2) := by decide +kernel
theorem dX2_hostsOver_49 : decode cX2_hostsOver 49 = .ok (.lload 7, 2) := by decide +kernel
theorem dX2_hostsOver_51 : decode cX2_hostsOver 51 = .ok (.lconst 0, 1) := by decide +kernel
theorem dX2_hostsOver_52 : decode cX2_hostsOver 52 = .ok (.lcmp, 1) := by decide +kernel
theorem dX2_hostsOver_53 : decode cX2_hostsOver 53 = .ok (.ifCond .ne 8, 3) := by decide +kernel
theorem dX2_hostsOver_56 : decode cX2_hostsOver 56 = .ok (.lload 4, 2) := by decide +kernel
theorem dX2_hostsOver_58 : decode cX2_hostsOver 58 = .ok (.goto 23, 3) := by decide +kernel
theorem dX2_hostsOver_61 : decode cX2_hostsOver 61 = .ok (.aload_n 0, 1) := by decide +kernel
theorem dX2_hostsOver_62 : decode cX2_hostsOver 62 = .ok (.getfield 57, 3) := by decide +kernel
theorem dX2_hostsOver_65 : decode cX2_hostsOver 65 = .ok (.lload 4, 2) := by decide +kernel
theorem dX2_hostsOver_67 : decode cX2_hostsOver 67 = .ok (.aload_n 0, 1) := by decide +kernel
theorem dX2_hostsOver_68 : decode cX2_hostsOver 68 = .ok (.getfield 57, 3) := by decide +kernel
theorem dX2_hostsOver_71 : decode cX2_hostsOver 71 = .ok (.iload 6, 2) := by decide +kernel
theorem dX2_hostsOver_73 : decode cX2_hostsOver 73 = .ok (.lload 7, 2) := by decide +kernel
theorem dX2_hostsOver_75 : decode cX2_hostsOver 75 = .ok (.invokevirtual 123, 3) := by decide +kernel
theorem dX2_hostsOver_78 : decode cX2_hostsOver 78 = .ok (.invokevirtual 127, 3) := by decide +kernel
theorem dX2_hostsOver_81 : decode cX2_hostsOver 81 = .ok (.lstore 4, 2) := by decide +kernel
theorem dX2_hostsOver_83 : decode cX2_hostsOver 83 = .ok (.iinc 6 1, 3) := by decide +kernel
theorem dX2_hostsOver_86 : decode cX2_hostsOver 86 = .ok (.goto (-80), 3) := by decide +kernel
theorem dX2_hostsOver_89 : decode cX2_hostsOver 89 = .ok (.lload 4, 2) := by decide +kernel
theorem dX2_hostsOver_91 : decode cX2_hostsOver 91 = .ok (.lreturn, 1) := by decide +kernel
theorem dX2_fillBranch_0 : decode cX2_fillBranch 0 = .ok (.aload_n 0, 1) := by decide +kernel
theorem dX2_fillBranch_1 : decode cX2_fillBranch 1 = .ok (.getfield 12, 3) := by decide +kernel
theorem dX2_fillBranch_4 : decode cX2_fillBranch 4 = .ok (.getfield 131, 3) := by decide +kernel
theorem dX2_fillBranch_7 : decode cX2_fillBranch 7 = .ok (.iload_n 1, 1) := by decide +kernel
theorem dX2_fillBranch_8 : decode cX2_fillBranch 8 = .ok (.baload, 1) := by decide +kernel
theorem dX2_fillBranch_9 : decode cX2_fillBranch 9 = .ok (.istore_n 3, 1) := by decide +kernel
theorem dX2_fillBranch_10 : decode cX2_fillBranch 10 = .ok (.iload_n 3, 1) := by decide +kernel
theorem dX2_fillBranch_11 : decode cX2_fillBranch 11 = .ok (.ifCond .eq 20, 3) := by decide +kernel
theorem dX2_fillBranch_14 : decode cX2_fillBranch 14 = .ok (.aload_n 0, 1) := by decide +kernel
theorem dX2_fillBranch_15 : decode cX2_fillBranch 15 = .ok (.getfield 12, 3) := by decide +kernel
theorem dX2_fillBranch_18 : decode cX2_fillBranch 18 = .ok (.getfield 135, 3) := by decide +kernel
theorem dX2_fillBranch_21 : decode cX2_fillBranch 21 = .ok (.iload_n 1, 1) := by decide +kernel
theorem dX2_fillBranch_22 : decode cX2_fillBranch 22 = .ok (.iaload, 1) := by decide +kernel
theorem dX2_fillBranch_23 : decode cX2_fillBranch 23 = .ok (.iconst (-1), 1) := by decide +kernel
theorem dX2_fillBranch_24 : decode cX2_fillBranch 24 = .ok (.if_icmp .ne 7, 3) := by decide +kernel
theorem dX2_fillBranch_27 : decode cX2_fillBranch 27 = .ok (.iconst 1, 1) := by decide +kernel
theorem dX2_fillBranch_28 : decode cX2_fillBranch 28 = .ok (.goto 4, 3) := by decide +kernel
theorem dX2_fillBranch_31 : decode cX2_fillBranch 31 = .ok (.iconst 0, 1) := by decide +kernel
theorem dX2_fillBranch_32 : decode cX2_fillBranch 32 = .ok (.istore 4, 2) := by decide +kernel
theorem dX2_fillBranch_34 : decode cX2_fillBranch 34 = .ok (.iconst 0, 1) := by decide +kernel
theorem dX2_fillBranch_35 : decode cX2_fillBranch 35 = .ok (.istore 5, 2) := by decide +kernel
theorem dX2_fillBranch_37 : decode cX2_fillBranch 37 = .ok (.iload 5, 2) := by decide +kernel
theorem dX2_fillBranch_39 : decode cX2_fillBranch 39 = .ok (.iload_n 2, 1) := by decide +kernel
theorem dX2_fillBranch_40 : decode cX2_fillBranch 40 = .ok (.iadd, 1) := by decide +kernel
theorem dX2_fillBranch_41 : decode cX2_fillBranch 41 = .ok (.aload_n 0, 1) := by decide +kernel
theorem dX2_fillBranch_42 : decode cX2_fillBranch 42 = .ok (.getfield 30, 3) := by decide +kernel
theorem dX2_fillBranch_45 : decode cX2_fillBranch 45 = .ok (.if_icmp .gt 192, 3) := by decide +kernel
theorem dX2_fillBranch_48 : decode cX2_fillBranch 48 = .ok (.iload_n 3, 1) := by decide +kernel
theorem dX2_fillBranch_49 : decode cX2_fillBranch 49 = .ok (.ifCond .eq 10, 3) := by decide +kernel
theorem dX2_fillBranch_52 : decode cX2_fillBranch 52 = .ok (.aload_n 0, 1) := by decide +kernel
theorem dX2_fillBranch_53 : decode cX2_fillBranch 53 = .ok (.getfield 30, 3) := by decide +kernel
theorem dX2_fillBranch_56 : decode cX2_fillBranch 56 = .ok (.goto 7, 3) := by decide +kernel
theorem dX2_fillBranch_59 : decode cX2_fillBranch 59 = .ok (.iload 5, 2) := by decide +kernel
theorem dX2_fillBranch_61 : decode cX2_fillBranch 61 = .ok (.iload_n 2, 1) := by decide +kernel
theorem dX2_fillBranch_62 : decode cX2_fillBranch 62 = .ok (.iadd, 1) := by decide +kernel
theorem dX2_fillBranch_63 : decode cX2_fillBranch 63 = .ok (.istore 6, 2) := by decide +kernel
theorem dX2_fillBranch_65 : decode cX2_fillBranch 65 = .ok (.iload 5, 2) := by decide +kernel
theorem dX2_fillBranch_67 : decode cX2_fillBranch 67 = .ok (.iload_n 2, 1) := by decide +kernel
theorem dX2_fillBranch_68 : decode cX2_fillBranch 68 = .ok (.iadd, 1) := by decide +kernel
theorem dX2_fillBranch_69 : decode cX2_fillBranch 69 = .ok (.istore 7, 2) := by decide +kernel
theorem dX2_fillBranch_71 : decode cX2_fillBranch 71 = .ok (.iload 7, 2) := by decide +kernel
theorem dX2_fillBranch_73 : decode cX2_fillBranch 73 = .ok (.iload 6, 2) := by decide +kernel
theorem dX2_fillBranch_75 : decode cX2_fillBranch 75 = .ok (.if_icmp .gt 156, 3) := by decide +kernel
theorem dX2_fillBranch_78 : decode cX2_fillBranch 78 = .ok (.iload_n 3, 1) := by decide +kernel
theorem dX2_fillBranch_79 : decode cX2_fillBranch 79 = .ok (.ifCond .eq 13, 3) := by decide +kernel
theorem dX2_fillBranch_82 : decode cX2_fillBranch 82 = .ok (.iload 7, 2) := by decide +kernel
theorem dX2_fillBranch_84 : decode cX2_fillBranch 84 = .ok (.iload 5, 2) := by decide +kernel
theorem dX2_fillBranch_86 : decode cX2_fillBranch 86 = .ok (.isub, 1) := by decide +kernel
theorem dX2_fillBranch_87 : decode cX2_fillBranch 87 = .ok (.iload_n 2, 1) := by decide +kernel
theorem dX2_fillBranch_88 : decode cX2_fillBranch 88 = .ok (.isub, 1) := by decide +kernel
theorem dX2_fillBranch_89 : decode cX2_fillBranch 89 = .ok (.goto 4, 3) := by decide +kernel
theorem dX2_fillBranch_92 : decode cX2_fillBranch 92 = .ok (.iconst 0, 1) := by decide +kernel
theorem dX2_fillBranch_93 : decode cX2_fillBranch 93 = .ok (.istore 8, 2) := by decide +kernel
theorem dX2_fillBranch_95 : decode cX2_fillBranch 95 = .ok (.iload_n 3, 1) := by decide +kernel
theorem dX2_fillBranch_96 : decode cX2_fillBranch 96 = .ok (.ifCond .eq 8, 3) := by decide +kernel
theorem dX2_fillBranch_99 : decode cX2_fillBranch 99 = .ok (.iload 5, 2) := by decide +kernel
theorem dX2_fillBranch_101 : decode cX2_fillBranch 101 = .ok (.goto 5, 3) := by decide +kernel
theorem dX2_fillBranch_104 : decode cX2_fillBranch 104 = .ok (.iload 7, 2) := by decide +kernel
theorem dX2_fillBranch_106 : decode cX2_fillBranch 106 = .ok (.istore 9, 2) := by decide +kernel
theorem dX2_fillBranch_108 : decode cX2_fillBranch 108 = .ok (.iload 9, 2) := by decide +kernel
theorem dX2_fillBranch_110 : decode cX2_fillBranch 110 = .ok (.iload 8, 2) := by decide +kernel
theorem dX2_fillBranch_112 : decode cX2_fillBranch 112 = .ok (.iadd, 1) := by decide +kernel
theorem dX2_fillBranch_113 : decode cX2_fillBranch 113 = .ok (.iload 7, 2) := by decide +kernel
theorem dX2_fillBranch_115 : decode cX2_fillBranch 115 = .ok (.if_icmp .gt 110, 3) := by decide +kernel
theorem dX2_fillBranch_118 : decode cX2_fillBranch 118 = .ok (.iload 5, 2) := by decide +kernel
theorem dX2_fillBranch_120 : decode cX2_fillBranch 120 = .ok (.iload 7, 2) := by decide +kernel
theorem dX2_fillBranch_122 : decode cX2_fillBranch 122 = .ok (.iload 9, 2) := by decide +kernel
theorem dX2_fillBranch_124 : decode cX2_fillBranch 124 = .ok (.iload 9, 2) := by decide +kernel
theorem dX2_fillBranch_126 : decode cX2_fillBranch 126 = .ok (.iload 8, 2) := by decide +kernel
theorem dX2_fillBranch_128 : decode cX2_fillBranch 128 = .ok (.iadd, 1) := by decide +kernel
theorem dX2_fillBranch_129 : decode cX2_fillBranch 129 = .ok (.invokestatic 37, 3) := by decide +kernel
theorem dX2_fillBranch_132 : decode cX2_fillBranch 132 = .ok (.istore 10, 2) := by decide +kernel
theorem dX2_fillBranch_134 : decode cX2_fillBranch 134 = .ok (.aload_n 0, 1) := by decide +kernel
theorem dX2_fillBranch_135 : decode cX2_fillBranch 135 = .ok (.getfield 19, 3) := by decide +kernel
theorem dX2_fillBranch_138 : decode cX2_fillBranch 138 = .ok (.aload_n 0, 1) := by decide +kernel
theorem dX2_fillBranch_139 : decode cX2_fillBranch 139 = .ok (.iload_n 1, 1) := by decide +kernel
theorem dX2_fillBranch_140 : decode cX2_fillBranch 140 = .ok (.iconst 0, 1) := by decide +kernel
theorem dX2_fillBranch_141 : decode cX2_fillBranch 141 = .ok (.invokevirtual 33, 3) := by decide +kernel
theorem dX2_fillBranch_144 : decode cX2_fillBranch 144 = .ok (.iload 10, 2) := by decide +kernel
theorem dX2_fillBranch_146 : decode cX2_fillBranch 146 = .ok (.iadd, 1) := by decide +kernel
theorem dX2_fillBranch_147 : decode cX2_fillBranch 147 = .ok (.aload_n 0, 1) := by decide +kernel
theorem dX2_fillBranch_148 : decode cX2_fillBranch 148 = .ok (.iload_n 1, 1) := by decide +kernel
theorem dX2_fillBranch_149 : decode cX2_fillBranch 149 = .ok (.iload 5, 2) := by decide +kernel
theorem dX2_fillBranch_151 : decode cX2_fillBranch 151 = .ok (.iload 7, 2) := by decide +kernel
theorem dX2_fillBranch_153 : decode cX2_fillBranch 153 = .ok (.iload 9, 2) := by decide +kernel
theorem dX2_fillBranch_155 : decode cX2_fillBranch 155 = .ok (.iload 9, 2) := by decide +kernel
theorem dX2_fillBranch_157 : decode cX2_fillBranch 157 = .ok (.iload 8, 2) := by decide +kernel
theorem dX2_fillBranch_159 : decode cX2_fillBranch 159 = .ok (.iadd, 1) := by decide +kernel
theorem dX2_fillBranch_160 : decode cX2_fillBranch 160 = .ok (.invokevirtual 138, 3) := by decide +kernel
theorem dX2_fillBranch_163 : decode cX2_fillBranch 163 = .ok (.lastore, 1) := by decide +kernel
theorem dX2_fillBranch_164 : decode cX2_fillBranch 164 = .ok (.aload_n 0, 1) := by decide +kernel
theorem dX2_fillBranch_165 : decode cX2_fillBranch 165 = .ok (.iload_n 1, 1) := by decide +kernel
theorem dX2_fillBranch_166 : decode cX2_fillBranch 166 = .ok (.iload 5, 2) := by decide +kernel
theorem dX2_fillBranch_168 : decode cX2_fillBranch 168 = .ok (.iload 7, 2) := by decide +kernel
theorem dX2_fillBranch_170 : decode cX2_fillBranch 170 = .ok (.iload 9, 2) := by decide +kernel
theorem dX2_fillBranch_172 : decode cX2_fillBranch 172 = .ok (.iload 9, 2) := by decide +kernel
theorem dX2_fillBranch_174 : decode cX2_fillBranch 174 = .ok (.iload 8, 2) := by decide +kernel
theorem dX2_fillBranch_176 : decode cX2_fillBranch 176 = .ok (.iadd, 1) := by decide +kernel
theorem dX2_fillBranch_177 : decode cX2_fillBranch 177 = .ok (.invokevirtual 142, 3) := by decide +kernel
theorem dX2_fillBranch_180 : decode cX2_fillBranch 180 = .ok (.lstore 11, 2) := by decide +kernel
theorem dX2_fillBranch_182 : decode cX2_fillBranch 182 = .ok (.aload_n 0, 1) := by decide +kernel
theorem dX2_fillBranch_183 : decode cX2_fillBranch 183 = .ok (.getfield 19, 3) := by decide +kernel
theorem dX2_fillBranch_186 : decode cX2_fillBranch 186 = .ok (.aload_n 0, 1) := by decide +kernel
theorem dX2_fillBranch_187 : decode cX2_fillBranch 187 = .ok (.iload_n 1, 1) := by decide +kernel
theorem dX2_fillBranch_188 : decode cX2_fillBranch 188 = .ok (.iconst 1, 1) := by decide +kernel
theorem dX2_fillBranch_189 : decode cX2_fillBranch 189 = .ok (.invokevirtual 33, 3) := by decide +kernel
theorem dX2_fillBranch_192 : decode cX2_fillBranch 192 = .ok (.iload 10, 2) := by decide +kernel
theorem dX2_fillBranch_194 : decode cX2_fillBranch 194 = .ok (.iadd, 1) := by decide +kernel
theorem dX2_fillBranch_195 : decode cX2_fillBranch 195 = .ok (.lload 11, 2) := by decide +kernel
theorem dX2_fillBranch_197 : decode cX2_fillBranch 197 = .ok (.lastore, 1) := by decide +kernel
theorem dX2_fillBranch_198 : decode cX2_fillBranch 198 = .ok (.iload 4, 2) := by decide +kernel
theorem dX2_fillBranch_200 : decode cX2_fillBranch 200 = .ok (.ifCond .eq 19, 3) := by decide +kernel
theorem dX2_fillBranch_203 : decode cX2_fillBranch 203 = .ok (.lload 11, 2) := by decide +kernel
theorem dX2_fillBranch_205 : decode cX2_fillBranch 205 = .ok (.lconst 0, 1) := by decide +kernel
theorem dX2_fillBranch_206 : decode cX2_fillBranch 206 = .ok (.lcmp, 1) := by decide +kernel
theorem dX2_fillBranch_207 : decode cX2_fillBranch 207 = .ok (.ifCond .eq 12, 3) := by decide +kernel
theorem dX2_fillBranch_210 : decode cX2_fillBranch 210 = .ok (.aload_n 0, 1) := by decide +kernel
theorem dX2_fillBranch_211 : decode cX2_fillBranch 211 = .ok (.iload_n 1, 1) := by decide +kernel
theorem dX2_fillBranch_212 : decode cX2_fillBranch 212 = .ok (.iload 10, 2) := by decide +kernel
theorem dX2_fillBranch_214 : decode cX2_fillBranch 214 = .ok (.lload 11, 2) := by decide +kernel
theorem dX2_fillBranch_216 : decode cX2_fillBranch 216 = .ok (.invokevirtual 145, 3) := by decide +kernel
theorem dX2_fillBranch_219 : decode cX2_fillBranch 219 = .ok (.iinc 9 1, 3) := by decide +kernel
theorem dX2_fillBranch_222 : decode cX2_fillBranch 222 = .ok (.goto (-114), 3) := by decide +kernel
theorem dX2_fillBranch_225 : decode cX2_fillBranch 225 = .ok (.iinc 7 1, 3) := by decide +kernel
theorem dX2_fillBranch_228 : decode cX2_fillBranch 228 = .ok (.goto (-157), 3) := by decide +kernel
theorem dX2_fillBranch_231 : decode cX2_fillBranch 231 = .ok (.iinc 5 1, 3) := by decide +kernel
theorem dX2_fillBranch_234 : decode cX2_fillBranch 234 = .ok (.goto (-197), 3) := by decide +kernel
theorem dX2_fillBranch_237 : decode cX2_fillBranch 237 = .ok (.return_, 1) := by decide +kernel
theorem dX2_addGuest_0 : decode cX2_addGuest 0 = .ok (.aload_n 0, 1) := by decide +kernel
theorem dX2_addGuest_1 : decode cX2_addGuest 1 = .ok (.aload_n 0, 1) := by decide +kernel
theorem dX2_addGuest_2 : decode cX2_addGuest 2 = .ok (.getfield 12, 3) := by decide +kernel
theorem dX2_addGuest_5 : decode cX2_addGuest 5 = .ok (.getfield 102, 3) := by decide +kernel
theorem dX2_addGuest_8 : decode cX2_addGuest 8 = .ok (.iload_n 1, 1) := by decide +kernel
theorem dX2_addGuest_9 : decode cX2_addGuest 9 = .ok (.iaload, 1) := by decide +kernel
theorem dX2_addGuest_10 : decode cX2_addGuest 10 = .ok (.invokevirtual 149, 3) := by decide +kernel
theorem dX2_addGuest_13 : decode cX2_addGuest 13 = .ok (.istore 5, 2) := by decide +kernel
theorem dX2_addGuest_15 : decode cX2_addGuest 15 = .ok (.iload 5, 2) := by decide +kernel
theorem dX2_addGuest_17 : decode cX2_addGuest 17 = .ok (.iconst (-1), 1) := by decide +kernel
theorem dX2_addGuest_18 : decode cX2_addGuest 18 = .ok (.if_icmp .eq 49, 3) := by decide +kernel
theorem dX2_addGuest_21 : decode cX2_addGuest 21 = .ok (.aload_n 0, 1) := by decide +kernel
theorem dX2_addGuest_22 : decode cX2_addGuest 22 = .ok (.getfield 57, 3) := by decide +kernel
theorem dX2_addGuest_25 : decode cX2_addGuest 25 = .ok (.aload_n 0, 1) := by decide +kernel
theorem dX2_addGuest_26 : decode cX2_addGuest 26 = .ok (.getfield 12, 3) := by decide +kernel
theorem dX2_addGuest_29 : decode cX2_addGuest 29 = .ok (.getfield 67, 3) := by decide +kernel
theorem dX2_addGuest_32 : decode cX2_addGuest 32 = .ok (.iload_n 1, 1) := by decide +kernel
theorem dX2_addGuest_33 : decode cX2_addGuest 33 = .ok (.iaload, 1) := by decide +kernel
theorem dX2_addGuest_34 : decode cX2_addGuest 34 = .ok (.lload_n 3, 1) := by decide +kernel
theorem dX2_addGuest_35 : decode cX2_addGuest 35 = .ok (.invokevirtual 123, 3) := by decide +kernel
theorem dX2_addGuest_38 : decode cX2_addGuest 38 = .ok (.lstore 6, 2) := by decide +kernel
theorem dX2_addGuest_40 : decode cX2_addGuest 40 = .ok (.aload_n 0, 1) := by decide +kernel
theorem dX2_addGuest_41 : decode cX2_addGuest 41 = .ok (.getfield 23, 3) := by decide +kernel
theorem dX2_addGuest_44 : decode cX2_addGuest 44 = .ok (.iload 5, 2) := by decide +kernel
theorem dX2_addGuest_46 : decode cX2_addGuest 46 = .ok (.iload_n 2, 1) := by decide +kernel
theorem dX2_addGuest_47 : decode cX2_addGuest 47 = .ok (.iadd, 1) := by decide +kernel
theorem dX2_addGuest_48 : decode cX2_addGuest 48 = .ok (.aload_n 0, 1) := by decide +kernel
theorem dX2_addGuest_49 : decode cX2_addGuest 49 = .ok (.getfield 57, 3) := by decide +kernel
theorem dX2_addGuest_52 : decode cX2_addGuest 52 = .ok (.aload_n 0, 1) := by decide +kernel
theorem dX2_addGuest_53 : decode cX2_addGuest 53 = .ok (.getfield 23, 3) := by decide +kernel
theorem dX2_addGuest_56 : decode cX2_addGuest 56 = .ok (.iload 5, 2) := by decide +kernel
theorem dX2_addGuest_58 : decode cX2_addGuest 58 = .ok (.iload_n 2, 1) := by decide +kernel
theorem dX2_addGuest_59 : decode cX2_addGuest 59 = .ok (.iadd, 1) := by decide +kernel
theorem dX2_addGuest_60 : decode cX2_addGuest 60 = .ok (.laload, 1) := by decide +kernel
theorem dX2_addGuest_61 : decode cX2_addGuest 61 = .ok (.lload 6, 2) := by decide +kernel
theorem dX2_addGuest_63 : decode cX2_addGuest 63 = .ok (.invokevirtual 127, 3) := by decide +kernel
theorem dX2_addGuest_66 : decode cX2_addGuest 66 = .ok (.lastore, 1) := by decide +kernel
theorem dX2_addGuest_67 : decode cX2_addGuest 67 = .ok (.return_, 1) := by decide +kernel
theorem dX2_guestRow_0 : decode cX2_guestRow 0 = .ok (.aload_n 0, 1) := by decide +kernel
theorem dX2_guestRow_1 : decode cX2_guestRow 1 = .ok (.getfield 12, 3) := by decide +kernel
theorem dX2_guestRow_4 : decode cX2_guestRow 4 = .ok (.getfield 153, 3) := by decide +kernel
theorem dX2_guestRow_7 : decode cX2_guestRow 7 = .ok (.iload_n 1, 1) := by decide +kernel
theorem dX2_guestRow_8 : decode cX2_guestRow 8 = .ok (.iaload, 1) := by decide +kernel
theorem dX2_guestRow_9 : decode cX2_guestRow 9 = .ok (.istore_n 2, 1) := by decide +kernel
theorem dX2_guestRow_10 : decode cX2_guestRow 10 = .ok (.iload_n 2, 1) := by decide +kernel
theorem dX2_guestRow_11 : decode cX2_guestRow 11 = .ok (.aload_n 0, 1) := by decide +kernel
theorem dX2_guestRow_12 : decode cX2_guestRow 12 = .ok (.getfield 54, 3) := by decide +kernel
theorem dX2_guestRow_15 : decode cX2_guestRow 15 = .ok (.iconst (-1), 1) := by decide +kernel
theorem dX2_guestRow_16 : decode cX2_guestRow 16 = .ok (.ixor, 1) := by decide +kernel
theorem dX2_guestRow_17 : decode cX2_guestRow 17 = .ok (.iand, 1) := by decide +kernel
theorem dX2_guestRow_18 : decode cX2_guestRow 18 = .ok (.ifCond .ne 7, 3) := by decide +kernel
theorem dX2_guestRow_21 : decode cX2_guestRow 21 = .ok (.iconst (-1), 1) := by decide +kernel
theorem dX2_guestRow_22 : decode cX2_guestRow 22 = .ok (.goto 11, 3) := by decide +kernel
theorem dX2_guestRow_25 : decode cX2_guestRow 25 = .ok (.iload_n 2, 1) := by decide +kernel
theorem dX2_guestRow_26 : decode cX2_guestRow 26 = .ok (.invokestatic 156, 3) := by decide +kernel
theorem dX2_guestRow_29 : decode cX2_guestRow 29 = .ok (.sipush 495, 3) := by decide +kernel
theorem dX2_guestRow_32 : decode cX2_guestRow 32 = .ok (.imul, 1) := by decide +kernel
theorem dX2_guestRow_33 : decode cX2_guestRow 33 = .ok (.ireturn, 1) := by decide +kernel
theorem dX2_waysBelow_0 : decode cX2_waysBelow 0 = .ok (.aload_n 0, 1) := by decide +kernel
theorem dX2_waysBelow_1 : decode cX2_waysBelow 1 = .ok (.getfield 12, 3) := by decide +kernel
theorem dX2_waysBelow_4 : decode cX2_waysBelow 4 = .ok (.getfield 161, 3) := by decide +kernel
theorem dX2_waysBelow_7 : decode cX2_waysBelow 7 = .ok (.iload_n 1, 1) := by decide +kernel
theorem dX2_waysBelow_8 : decode cX2_waysBelow 8 = .ok (.iaload, 1) := by decide +kernel
theorem dX2_waysBelow_9 : decode cX2_waysBelow 9 = .ok (.istore 6, 2) := by decide +kernel
theorem dX2_waysBelow_11 : decode cX2_waysBelow 11 = .ok (.aload_n 0, 1) := by decide +kernel
theorem dX2_waysBelow_12 : decode cX2_waysBelow 12 = .ok (.getfield 12, 3) := by decide +kernel
theorem dX2_waysBelow_15 : decode cX2_waysBelow 15 = .ok (.getfield 164, 3) := by decide +kernel
theorem dX2_waysBelow_18 : decode cX2_waysBelow 18 = .ok (.iload_n 1, 1) := by decide +kernel
theorem dX2_waysBelow_19 : decode cX2_waysBelow 19 = .ok (.iaload, 1) := by decide +kernel
theorem dX2_waysBelow_20 : decode cX2_waysBelow 20 = .ok (.istore 7, 2) := by decide +kernel
theorem dX2_waysBelow_22 : decode cX2_waysBelow 22 = .ok (.iload 7, 2) := by decide +kernel
theorem dX2_waysBelow_24 : decode cX2_waysBelow 24 = .ok (.iconst (-1), 1) := by decide +kernel
theorem dX2_waysBelow_25 : decode cX2_waysBelow 25 = .ok (.if_icmp .ne 17, 3) := by decide +kernel
theorem dX2_waysBelow_28 : decode cX2_waysBelow 28 = .ok (.aload_n 0, 1) := by decide +kernel
theorem dX2_waysBelow_29 : decode cX2_waysBelow 29 = .ok (.iload 6, 2) := by decide +kernel
theorem dX2_waysBelow_31 : decode cX2_waysBelow 31 = .ok (.iconst 1, 1) := by decide +kernel
theorem dX2_waysBelow_32 : decode cX2_waysBelow 32 = .ok (.iload_n 2, 1) := by decide +kernel
theorem dX2_waysBelow_33 : decode cX2_waysBelow 33 = .ok (.iload_n 3, 1) := by decide +kernel
theorem dX2_waysBelow_34 : decode cX2_waysBelow 34 = .ok (.iload 4, 2) := by decide +kernel
theorem dX2_waysBelow_36 : decode cX2_waysBelow 36 = .ok (.iload 5, 2) := by decide +kernel
theorem dX2_waysBelow_38 : decode cX2_waysBelow 38 = .ok (.invokevirtual 119, 3) := by decide +kernel
theorem dX2_waysBelow_41 : decode cX2_waysBelow 41 = .ok (.lreturn, 1) := by decide +kernel
theorem dX2_waysBelow_42 : decode cX2_waysBelow 42 = .ok (.aload_n 0, 1) := by decide +kernel
theorem dX2_waysBelow_43 : decode cX2_waysBelow 43 = .ok (.getfield 12, 3) := by decide +kernel
theorem dX2_waysBelow_46 : decode cX2_waysBelow 46 = .ok (.getfield 131, 3) := by decide +kernel
theorem dX2_waysBelow_49 : decode cX2_waysBelow 49 = .ok (.iload 6, 2) := by decide +kernel
theorem dX2_waysBelow_51 : decode cX2_waysBelow 51 = .ok (.baload, 1) := by decide +kernel
theorem dX2_waysBelow_52 : decode cX2_waysBelow 52 = .ok (.istore 8, 2) := by decide +kernel
theorem dX2_waysBelow_54 : decode cX2_waysBelow 54 = .ok (.lconst 0, 1) := by decide +kernel
theorem dX2_waysBelow_55 : decode cX2_waysBelow 55 = .ok (.lstore 9, 2) := by decide +kernel
theorem dX2_waysBelow_57 : decode cX2_waysBelow 57 = .ok (.iload 8, 2) := by decide +kernel
theorem dX2_waysBelow_59 : decode cX2_waysBelow 59 = .ok (.ifCond .eq 7, 3) := by decide +kernel
theorem dX2_waysBelow_62 : decode cX2_waysBelow 62 = .ok (.iload_n 3, 1) := by decide +kernel
theorem dX2_waysBelow_63 : decode cX2_waysBelow 63 = .ok (.goto 5, 3) := by decide +kernel
theorem dX2_waysBelow_66 : decode cX2_waysBelow 66 = .ok (.iload 4, 2) := by decide +kernel
theorem dX2_waysBelow_68 : decode cX2_waysBelow 68 = .ok (.istore 11, 2) := by decide +kernel
theorem dX2_waysBelow_70 : decode cX2_waysBelow 70 = .ok (.iload 8, 2) := by decide +kernel
theorem dX2_waysBelow_72 : decode cX2_waysBelow 72 = .ok (.ifCond .eq 8, 3) := by decide +kernel
theorem dX2_waysBelow_75 : decode cX2_waysBelow 75 = .ok (.iload 5, 2) := by decide +kernel
theorem dX2_waysBelow_77 : decode cX2_waysBelow 77 = .ok (.goto 4, 3) := by decide +kernel
theorem dX2_waysBelow_80 : decode cX2_waysBelow 80 = .ok (.iload_n 2, 1) := by decide +kernel
theorem dX2_waysBelow_81 : decode cX2_waysBelow 81 = .ok (.istore 12, 2) := by decide +kernel
theorem dX2_waysBelow_83 : decode cX2_waysBelow 83 = .ok (.iload 12, 2) := by decide +kernel
theorem dX2_waysBelow_85 : decode cX2_waysBelow 85 = .ok (.iload 11, 2) := by decide +kernel
theorem dX2_waysBelow_87 : decode cX2_waysBelow 87 = .ok (.if_icmp .gt 124, 3) := by decide +kernel
theorem dX2_waysBelow_90 : decode cX2_waysBelow 90 = .ok (.iload 8, 2) := by decide +kernel
theorem dX2_waysBelow_92 : decode cX2_waysBelow 92 = .ok (.ifCond .eq 20, 3) := by decide +kernel
theorem dX2_waysBelow_95 : decode cX2_waysBelow 95 = .ok (.aload_n 0, 1) := by decide +kernel
theorem dX2_waysBelow_96 : decode cX2_waysBelow 96 = .ok (.iload 6, 2) := by decide +kernel
theorem dX2_waysBelow_98 : decode cX2_waysBelow 98 = .ok (.iconst 1, 1) := by decide +kernel
theorem dX2_waysBelow_99 : decode cX2_waysBelow 99 = .ok (.iload_n 2, 1) := by decide +kernel
theorem dX2_waysBelow_100 : decode cX2_waysBelow 100 = .ok (.iload 12, 2) := by decide +kernel
theorem dX2_waysBelow_102 : decode cX2_waysBelow 102 = .ok (.iload 4, 2) := by decide +kernel
theorem dX2_waysBelow_104 : decode cX2_waysBelow 104 = .ok (.iload 5, 2) := by decide +kernel
theorem dX2_waysBelow_106 : decode cX2_waysBelow 106 = .ok (.invokevirtual 119, 3) := by decide +kernel
theorem dX2_waysBelow_109 : decode cX2_waysBelow 109 = .ok (.goto 17, 3) := by decide +kernel
theorem dX2_waysBelow_112 : decode cX2_waysBelow 112 = .ok (.aload_n 0, 1) := by decide +kernel
theorem dX2_waysBelow_113 : decode cX2_waysBelow 113 = .ok (.iload 6, 2) := by decide +kernel
theorem dX2_waysBelow_115 : decode cX2_waysBelow 115 = .ok (.iconst 1, 1) := by decide +kernel
theorem dX2_waysBelow_116 : decode cX2_waysBelow 116 = .ok (.iload_n 2, 1) := by decide +kernel
theorem dX2_waysBelow_117 : decode cX2_waysBelow 117 = .ok (.iload 12, 2) := by decide +kernel
theorem dX2_waysBelow_119 : decode cX2_waysBelow 119 = .ok (.iload 12, 2) := by decide +kernel
theorem dX2_waysBelow_121 : decode cX2_waysBelow 121 = .ok (.iload 12, 2) := by decide +kernel
theorem dX2_waysBelow_123 : decode cX2_waysBelow 123 = .ok (.invokevirtual 119, 3) := by decide +kernel
theorem dX2_waysBelow_126 : decode cX2_waysBelow 126 = .ok (.lstore 13, 2) := by decide +kernel
theorem dX2_waysBelow_128 : decode cX2_waysBelow 128 = .ok (.lload 13, 2) := by decide +kernel
theorem dX2_waysBelow_130 : decode cX2_waysBelow 130 = .ok (.lconst 0, 1) := by decide +kernel
theorem dX2_waysBelow_131 : decode cX2_waysBelow 131 = .ok (.lcmp, 1) := by decide +kernel
theorem dX2_waysBelow_132 : decode cX2_waysBelow 132 = .ok (.ifCond .eq 73, 3) := by decide +kernel
theorem dX2_waysBelow_135 : decode cX2_waysBelow 135 = .ok (.iload 8, 2) := by decide +kernel
theorem dX2_waysBelow_137 : decode cX2_waysBelow 137 = .ok (.ifCond .eq 18, 3) := by decide +kernel
theorem dX2_waysBelow_140 : decode cX2_waysBelow 140 = .ok (.aload_n 0, 1) := by decide +kernel
theorem dX2_waysBelow_141 : decode cX2_waysBelow 141 = .ok (.iload 7, 2) := by decide +kernel
theorem dX2_waysBelow_143 : decode cX2_waysBelow 143 = .ok (.iconst 1, 1) := by decide +kernel
theorem dX2_waysBelow_144 : decode cX2_waysBelow 144 = .ok (.iload 12, 2) := by decide +kernel
theorem dX2_waysBelow_146 : decode cX2_waysBelow 146 = .ok (.iload_n 3, 1) := by decide +kernel
theorem dX2_waysBelow_147 : decode cX2_waysBelow 147 = .ok (.iload_n 3, 1) := by decide +kernel
theorem dX2_waysBelow_148 : decode cX2_waysBelow 148 = .ok (.iload_n 3, 1) := by decide +kernel
theorem dX2_waysBelow_149 : decode cX2_waysBelow 149 = .ok (.invokevirtual 119, 3) := by decide +kernel
theorem dX2_waysBelow_152 : decode cX2_waysBelow 152 = .ok (.goto 17, 3) := by decide +kernel
theorem dX2_waysBelow_155 : decode cX2_waysBelow 155 = .ok (.aload_n 0, 1) := by decide +kernel
theorem dX2_waysBelow_156 : decode cX2_waysBelow 156 = .ok (.iload 7, 2) := by decide +kernel
theorem dX2_waysBelow_158 : decode cX2_waysBelow 158 = .ok (.iconst 1, 1) := by decide +kernel
theorem dX2_waysBelow_159 : decode cX2_waysBelow 159 = .ok (.iload 12, 2) := by decide +kernel
theorem dX2_waysBelow_161 : decode cX2_waysBelow 161 = .ok (.iload_n 3, 1) := by decide +kernel
theorem dX2_waysBelow_162 : decode cX2_waysBelow 162 = .ok (.iload 4, 2) := by decide +kernel
theorem dX2_waysBelow_164 : decode cX2_waysBelow 164 = .ok (.iload 5, 2) := by decide +kernel
theorem dX2_waysBelow_166 : decode cX2_waysBelow 166 = .ok (.invokevirtual 119, 3) := by decide +kernel
theorem dX2_waysBelow_169 : decode cX2_waysBelow 169 = .ok (.lstore 15, 2) := by decide +kernel
theorem dX2_waysBelow_171 : decode cX2_waysBelow 171 = .ok (.lload 15, 2) := by decide +kernel
theorem dX2_waysBelow_173 : decode cX2_waysBelow 173 = .ok (.lconst 0, 1) := by decide +kernel
theorem dX2_waysBelow_174 : decode cX2_waysBelow 174 = .ok (.lcmp, 1) := by decide +kernel
theorem dX2_waysBelow_175 : decode cX2_waysBelow 175 = .ok (.ifCond .ne 8, 3) := by decide +kernel
theorem dX2_waysBelow_178 : decode cX2_waysBelow 178 = .ok (.lload 9, 2) := by decide +kernel
theorem dX2_waysBelow_180 : decode cX2_waysBelow 180 = .ok (.goto 23, 3) := by decide +kernel
theorem dX2_waysBelow_183 : decode cX2_waysBelow 183 = .ok (.aload_n 0, 1) := by decide +kernel
theorem dX2_waysBelow_184 : decode cX2_waysBelow 184 = .ok (.getfield 57, 3) := by decide +kernel
theorem dX2_waysBelow_187 : decode cX2_waysBelow 187 = .ok (.lload 9, 2) := by decide +kernel
theorem dX2_waysBelow_189 : decode cX2_waysBelow 189 = .ok (.aload_n 0, 1) := by decide +kernel
theorem dX2_waysBelow_190 : decode cX2_waysBelow 190 = .ok (.getfield 57, 3) := by decide +kernel
theorem dX2_waysBelow_193 : decode cX2_waysBelow 193 = .ok (.lload 13, 2) := by decide +kernel
theorem dX2_waysBelow_195 : decode cX2_waysBelow 195 = .ok (.lload 15, 2) := by decide +kernel
theorem dX2_waysBelow_197 : decode cX2_waysBelow 197 = .ok (.invokevirtual 167, 3) := by decide +kernel
theorem dX2_waysBelow_200 : decode cX2_waysBelow 200 = .ok (.invokevirtual 127, 3) := by decide +kernel
theorem dX2_waysBelow_203 : decode cX2_waysBelow 203 = .ok (.lstore 9, 2) := by decide +kernel
theorem dX2_waysBelow_205 : decode cX2_waysBelow 205 = .ok (.iinc 12 1, 3) := by decide +kernel
theorem dX2_waysBelow_208 : decode cX2_waysBelow 208 = .ok (.goto (-125), 3) := by decide +kernel
theorem dX2_waysBelow_211 : decode cX2_waysBelow 211 = .ok (.lload 9, 2) := by decide +kernel
theorem dX2_waysBelow_213 : decode cX2_waysBelow 213 = .ok (.lreturn, 1) := by decide +kernel
theorem dX2_waysAbove_0 : decode cX2_waysAbove 0 = .ok (.aload_n 0, 1) := by decide +kernel
theorem dX2_waysAbove_1 : decode cX2_waysAbove 1 = .ok (.iload_n 1, 1) := by decide +kernel
theorem dX2_waysAbove_2 : decode cX2_waysAbove 2 = .ok (.iconst 0, 1) := by decide +kernel
theorem dX2_waysAbove_3 : decode cX2_waysAbove 3 = .ok (.invokevirtual 33, 3) := by decide +kernel
theorem dX2_waysAbove_6 : decode cX2_waysAbove 6 = .ok (.istore 6, 2) := by decide +kernel
theorem dX2_waysAbove_8 : decode cX2_waysAbove 8 = .ok (.aload_n 0, 1) := by decide +kernel
theorem dX2_waysAbove_9 : decode cX2_waysAbove 9 = .ok (.getfield 12, 3) := by decide +kernel
theorem dX2_waysAbove_12 : decode cX2_waysAbove 12 = .ok (.getfield 170, 3) := by decide +kernel
theorem dX2_waysAbove_15 : decode cX2_waysAbove 15 = .ok (.iload_n 1, 1) := by decide +kernel
theorem dX2_waysAbove_16 : decode cX2_waysAbove 16 = .ok (.iaload, 1) := by decide +kernel
theorem dX2_waysAbove_17 : decode cX2_waysAbove 17 = .ok (.iconst 2, 1) := by decide +kernel
theorem dX2_waysAbove_18 : decode cX2_waysAbove 18 = .ok (.if_icmp .ne 7, 3) := by decide +kernel
theorem dX2_waysAbove_21 : decode cX2_waysAbove 21 = .ok (.lconst 0, 1) := by decide +kernel
theorem dX2_waysAbove_22 : decode cX2_waysAbove 22 = .ok (.goto 20, 3) := by decide +kernel
theorem dX2_waysAbove_25 : decode cX2_waysAbove 25 = .ok (.aload_n 0, 1) := by decide +kernel
theorem dX2_waysAbove_26 : decode cX2_waysAbove 26 = .ok (.getfield 19, 3) := by decide +kernel
theorem dX2_waysAbove_29 : decode cX2_waysAbove 29 = .ok (.iload 6, 2) := by decide +kernel
theorem dX2_waysAbove_31 : decode cX2_waysAbove 31 = .ok (.iload_n 2, 1) := by decide +kernel
theorem dX2_waysAbove_32 : decode cX2_waysAbove 32 = .ok (.iload_n 3, 1) := by decide +kernel
theorem dX2_waysAbove_33 : decode cX2_waysAbove 33 = .ok (.iload 4, 2) := by decide +kernel
theorem dX2_waysAbove_35 : decode cX2_waysAbove 35 = .ok (.iload 5, 2) := by decide +kernel
theorem dX2_waysAbove_37 : decode cX2_waysAbove 37 = .ok (.invokestatic 37, 3) := by decide +kernel
theorem dX2_waysAbove_40 : decode cX2_waysAbove 40 = .ok (.iadd, 1) := by decide +kernel
theorem dX2_waysAbove_41 : decode cX2_waysAbove 41 = .ok (.laload, 1) := by decide +kernel
theorem dX2_waysAbove_42 : decode cX2_waysAbove 42 = .ok (.lstore 7, 2) := by decide +kernel
theorem dX2_waysAbove_44 : decode cX2_waysAbove 44 = .ok (.aload_n 0, 1) := by decide +kernel
theorem dX2_waysAbove_45 : decode cX2_waysAbove 45 = .ok (.getfield 12, 3) := by decide +kernel
theorem dX2_waysAbove_48 : decode cX2_waysAbove 48 = .ok (.getfield 170, 3) := by decide +kernel
theorem dX2_waysAbove_51 : decode cX2_waysAbove 51 = .ok (.iload_n 1, 1) := by decide +kernel
theorem dX2_waysAbove_52 : decode cX2_waysAbove 52 = .ok (.iaload, 1) := by decide +kernel
theorem dX2_waysAbove_53 : decode cX2_waysAbove 53 = .ok (.iconst 1, 1) := by decide +kernel
theorem dX2_waysAbove_54 : decode cX2_waysAbove 54 = .ok (.if_icmp .ne 7, 3) := by decide +kernel
theorem dX2_waysAbove_57 : decode cX2_waysAbove 57 = .ok (.iconst (-1), 1) := by decide +kernel
theorem dX2_waysAbove_58 : decode cX2_waysAbove 58 = .ok (.goto 16, 3) := by decide +kernel
theorem dX2_waysAbove_61 : decode cX2_waysAbove 61 = .ok (.aload_n 0, 1) := by decide +kernel
theorem dX2_waysAbove_62 : decode cX2_waysAbove 62 = .ok (.aload_n 0, 1) := by decide +kernel
theorem dX2_waysAbove_63 : decode cX2_waysAbove 63 = .ok (.getfield 12, 3) := by decide +kernel
theorem dX2_waysAbove_66 : decode cX2_waysAbove 66 = .ok (.getfield 102, 3) := by decide +kernel
theorem dX2_waysAbove_69 : decode cX2_waysAbove 69 = .ok (.iload_n 1, 1) := by decide +kernel
theorem dX2_waysAbove_70 : decode cX2_waysAbove 70 = .ok (.iaload, 1) := by decide +kernel
theorem dX2_waysAbove_71 : decode cX2_waysAbove 71 = .ok (.invokevirtual 149, 3) := by decide +kernel
theorem dX2_waysAbove_74 : decode cX2_waysAbove 74 = .ok (.istore 9, 2) := by decide +kernel
theorem dX2_waysAbove_76 : decode cX2_waysAbove 76 = .ok (.iload 9, 2) := by decide +kernel
theorem dX2_waysAbove_78 : decode cX2_waysAbove 78 = .ok (.iconst (-1), 1) := by decide +kernel
theorem dX2_waysAbove_79 : decode cX2_waysAbove 79 = .ok (.if_icmp .ne 6, 3) := by decide +kernel
theorem dX2_waysAbove_82 : decode cX2_waysAbove 82 = .ok (.lload 7, 2) := by decide +kernel
theorem dX2_waysAbove_84 : decode cX2_waysAbove 84 = .ok (.lreturn, 1) := by decide +kernel
theorem dX2_waysAbove_85 : decode cX2_waysAbove 85 = .ok (.aload_n 0, 1) := by decide +kernel
theorem dX2_waysAbove_86 : decode cX2_waysAbove 86 = .ok (.getfield 12, 3) := by decide +kernel
theorem dX2_waysAbove_89 : decode cX2_waysAbove 89 = .ok (.getfield 131, 3) := by decide +kernel
theorem dX2_waysAbove_92 : decode cX2_waysAbove 92 = .ok (.iload_n 1, 1) := by decide +kernel
theorem dX2_waysAbove_93 : decode cX2_waysAbove 93 = .ok (.baload, 1) := by decide +kernel
theorem dX2_waysAbove_94 : decode cX2_waysAbove 94 = .ok (.istore 10, 2) := by decide +kernel
theorem dX2_waysAbove_96 : decode cX2_waysAbove 96 = .ok (.iload_n 2, 1) := by decide +kernel
theorem dX2_waysAbove_97 : decode cX2_waysAbove 97 = .ok (.istore 11, 2) := by decide +kernel
theorem dX2_waysAbove_99 : decode cX2_waysAbove 99 = .ok (.iload 11, 2) := by decide +kernel
theorem dX2_waysAbove_101 : decode cX2_waysAbove 101 = .ok (.iload 4, 2) := by decide +kernel
theorem dX2_waysAbove_103 : decode cX2_waysAbove 103 = .ok (.if_icmp .gt 135, 3) := by decide +kernel
theorem dX2_waysAbove_106 : decode cX2_waysAbove 106 = .ok (.iload 10, 2) := by decide +kernel
theorem dX2_waysAbove_108 : decode cX2_waysAbove 108 = .ok (.ifCond .eq 8, 3) := by decide +kernel
theorem dX2_waysAbove_111 : decode cX2_waysAbove 111 = .ok (.iload 5, 2) := by decide +kernel
theorem dX2_waysAbove_113 : decode cX2_waysAbove 113 = .ok (.goto 5, 3) := by decide +kernel
theorem dX2_waysAbove_116 : decode cX2_waysAbove 116 = .ok (.iload 11, 2) := by decide +kernel
theorem dX2_waysAbove_118 : decode cX2_waysAbove 118 = .ok (.istore 12, 2) := by decide +kernel
theorem dX2_waysAbove_120 : decode cX2_waysAbove 120 = .ok (.iload 12, 2) := by decide +kernel
theorem dX2_waysAbove_122 : decode cX2_waysAbove 122 = .ok (.iload_n 3, 1) := by decide +kernel
theorem dX2_waysAbove_123 : decode cX2_waysAbove 123 = .ok (.if_icmp .gt 109, 3) := by decide +kernel
theorem dX2_waysAbove_126 : decode cX2_waysAbove 126 = .ok (.aload_n 0, 1) := by decide +kernel
theorem dX2_waysAbove_127 : decode cX2_waysAbove 127 = .ok (.getfield 19, 3) := by decide +kernel
theorem dX2_waysAbove_130 : decode cX2_waysAbove 130 = .ok (.iload 6, 2) := by decide +kernel
theorem dX2_waysAbove_132 : decode cX2_waysAbove 132 = .ok (.iload 10, 2) := by decide +kernel
theorem dX2_waysAbove_134 : decode cX2_waysAbove 134 = .ok (.ifCond .eq 17, 3) := by decide +kernel
theorem dX2_waysAbove_137 : decode cX2_waysAbove 137 = .ok (.iload 11, 2) := by decide +kernel
theorem dX2_waysAbove_139 : decode cX2_waysAbove 139 = .ok (.iload 12, 2) := by decide +kernel
theorem dX2_waysAbove_141 : decode cX2_waysAbove 141 = .ok (.iload 4, 2) := by decide +kernel
theorem dX2_waysAbove_143 : decode cX2_waysAbove 143 = .ok (.iload 5, 2) := by decide +kernel
theorem dX2_waysAbove_145 : decode cX2_waysAbove 145 = .ok (.invokestatic 37, 3) := by decide +kernel
theorem dX2_waysAbove_148 : decode cX2_waysAbove 148 = .ok (.goto 14, 3) := by decide +kernel
theorem dX2_waysAbove_151 : decode cX2_waysAbove 151 = .ok (.iload 11, 2) := by decide +kernel
theorem dX2_waysAbove_153 : decode cX2_waysAbove 153 = .ok (.iload 12, 2) := by decide +kernel
theorem dX2_waysAbove_155 : decode cX2_waysAbove 155 = .ok (.iload 12, 2) := by decide +kernel
theorem dX2_waysAbove_157 : decode cX2_waysAbove 157 = .ok (.iload 12, 2) := by decide +kernel
theorem dX2_waysAbove_159 : decode cX2_waysAbove 159 = .ok (.invokestatic 37, 3) := by decide +kernel
theorem dX2_waysAbove_162 : decode cX2_waysAbove 162 = .ok (.iadd, 1) := by decide +kernel
theorem dX2_waysAbove_163 : decode cX2_waysAbove 163 = .ok (.laload, 1) := by decide +kernel
theorem dX2_waysAbove_164 : decode cX2_waysAbove 164 = .ok (.lstore 13, 2) := by decide +kernel
theorem dX2_waysAbove_166 : decode cX2_waysAbove 166 = .ok (.lload 13, 2) := by decide +kernel
theorem dX2_waysAbove_168 : decode cX2_waysAbove 168 = .ok (.lconst 0, 1) := by decide +kernel
theorem dX2_waysAbove_169 : decode cX2_waysAbove 169 = .ok (.lcmp, 1) := by decide +kernel
theorem dX2_waysAbove_170 : decode cX2_waysAbove 170 = .ok (.ifCond .eq 56, 3) := by decide +kernel
theorem dX2_waysAbove_173 : decode cX2_waysAbove 173 = .ok (.aload_n 0, 1) := by decide +kernel
theorem dX2_waysAbove_174 : decode cX2_waysAbove 174 = .ok (.getfield 23, 3) := by decide +kernel
theorem dX2_waysAbove_177 : decode cX2_waysAbove 177 = .ok (.iload 9, 2) := by decide +kernel
theorem dX2_waysAbove_179 : decode cX2_waysAbove 179 = .ok (.iload_n 2, 1) := by decide +kernel
theorem dX2_waysAbove_180 : decode cX2_waysAbove 180 = .ok (.iload_n 3, 1) := by decide +kernel
theorem dX2_waysAbove_181 : decode cX2_waysAbove 181 = .ok (.iload 11, 2) := by decide +kernel
theorem dX2_waysAbove_183 : decode cX2_waysAbove 183 = .ok (.iload 12, 2) := by decide +kernel
theorem dX2_waysAbove_185 : decode cX2_waysAbove 185 = .ok (.invokestatic 37, 3) := by decide +kernel
theorem dX2_waysAbove_188 : decode cX2_waysAbove 188 = .ok (.iadd, 1) := by decide +kernel
theorem dX2_waysAbove_189 : decode cX2_waysAbove 189 = .ok (.laload, 1) := by decide +kernel
theorem dX2_waysAbove_190 : decode cX2_waysAbove 190 = .ok (.lstore 15, 2) := by decide +kernel
theorem dX2_waysAbove_192 : decode cX2_waysAbove 192 = .ok (.lload 15, 2) := by decide +kernel
theorem dX2_waysAbove_194 : decode cX2_waysAbove 194 = .ok (.lconst 0, 1) := by decide +kernel
theorem dX2_waysAbove_195 : decode cX2_waysAbove 195 = .ok (.lcmp, 1) := by decide +kernel
theorem dX2_waysAbove_196 : decode cX2_waysAbove 196 = .ok (.ifCond .ne 8, 3) := by decide +kernel
theorem dX2_waysAbove_199 : decode cX2_waysAbove 199 = .ok (.lload 7, 2) := by decide +kernel
theorem dX2_waysAbove_201 : decode cX2_waysAbove 201 = .ok (.goto 23, 3) := by decide +kernel
theorem dX2_waysAbove_204 : decode cX2_waysAbove 204 = .ok (.aload_n 0, 1) := by decide +kernel
theorem dX2_waysAbove_205 : decode cX2_waysAbove 205 = .ok (.getfield 57, 3) := by decide +kernel
theorem dX2_waysAbove_208 : decode cX2_waysAbove 208 = .ok (.lload 7, 2) := by decide +kernel
theorem dX2_waysAbove_210 : decode cX2_waysAbove 210 = .ok (.aload_n 0, 1) := by decide +kernel
theorem dX2_waysAbove_211 : decode cX2_waysAbove 211 = .ok (.getfield 57, 3) := by decide +kernel
theorem dX2_waysAbove_214 : decode cX2_waysAbove 214 = .ok (.lload 15, 2) := by decide +kernel
theorem dX2_waysAbove_216 : decode cX2_waysAbove 216 = .ok (.lload 13, 2) := by decide +kernel
theorem dX2_waysAbove_218 : decode cX2_waysAbove 218 = .ok (.invokevirtual 167, 3) := by decide +kernel
theorem dX2_waysAbove_221 : decode cX2_waysAbove 221 = .ok (.invokevirtual 127, 3) := by decide +kernel
theorem dX2_waysAbove_224 : decode cX2_waysAbove 224 = .ok (.lstore 7, 2) := by decide +kernel
theorem dX2_waysAbove_226 : decode cX2_waysAbove 226 = .ok (.iinc 12 1, 3) := by decide +kernel
theorem dX2_waysAbove_229 : decode cX2_waysAbove 229 = .ok (.goto (-109), 3) := by decide +kernel
theorem dX2_waysAbove_232 : decode cX2_waysAbove 232 = .ok (.iinc 11 1, 3) := by decide +kernel
theorem dX2_waysAbove_235 : decode cX2_waysAbove 235 = .ok (.goto (-136), 3) := by decide +kernel
theorem dX2_waysAbove_238 : decode cX2_waysAbove 238 = .ok (.lload 7, 2) := by decide +kernel
theorem dX2_waysAbove_240 : decode cX2_waysAbove 240 = .ok (.lreturn, 1) := by decide +kernel
theorem dX2_atStart_0 : decode cX2_atStart 0 = .ok (.aload_n 0, 1) := by decide +kernel
theorem dX2_atStart_1 : decode cX2_atStart 1 = .ok (.aload_n 0, 1) := by decide +kernel
theorem dX2_atStart_2 : decode cX2_atStart 2 = .ok (.getfield 12, 3) := by decide +kernel
theorem dX2_atStart_5 : decode cX2_atStart 5 = .ok (.invokevirtual 173, 3) := by decide +kernel
theorem dX2_atStart_8 : decode cX2_atStart 8 = .ok (.iconst 0, 1) := by decide +kernel
theorem dX2_atStart_9 : decode cX2_atStart 9 = .ok (.iload_n 1, 1) := by decide +kernel
theorem dX2_atStart_10 : decode cX2_atStart 10 = .ok (.invokevirtual 112, 3) := by decide +kernel
theorem dX2_atStart_13 : decode cX2_atStart 13 = .ok (.lreturn, 1) := by decide +kernel
theorem dX2_rootsOver_0 : decode cX2_rootsOver 0 = .ok (.iconst 0, 1) := by decide +kernel
theorem dX2_rootsOver_1 : decode cX2_rootsOver 1 = .ok (.istore 6, 2) := by decide +kernel
theorem dX2_rootsOver_3 : decode cX2_rootsOver 3 = .ok (.iconst 0, 1) := by decide +kernel
theorem dX2_rootsOver_4 : decode cX2_rootsOver 4 = .ok (.istore 7, 2) := by decide +kernel
theorem dX2_rootsOver_6 : decode cX2_rootsOver 6 = .ok (.iload 7, 2) := by decide +kernel
theorem dX2_rootsOver_8 : decode cX2_rootsOver 8 = .ok (.aload_n 0, 1) := by decide +kernel
theorem dX2_rootsOver_9 : decode cX2_rootsOver 9 = .ok (.getfield 12, 3) := by decide +kernel
theorem dX2_rootsOver_12 : decode cX2_rootsOver 12 = .ok (.getfield 94, 3) := by decide +kernel
theorem dX2_rootsOver_15 : decode cX2_rootsOver 15 = .ok (.if_icmp .ge 54, 3) := by decide +kernel
theorem dX2_rootsOver_18 : decode cX2_rootsOver 18 = .ok (.iload_n 1, 1) := by decide +kernel
theorem dX2_rootsOver_19 : decode cX2_rootsOver 19 = .ok (.iload 7, 2) := by decide +kernel
theorem dX2_rootsOver_21 : decode cX2_rootsOver 21 = .ok (.ishr, 1) := by decide +kernel
theorem dX2_rootsOver_22 : decode cX2_rootsOver 22 = .ok (.iconst 1, 1) := by decide +kernel
theorem dX2_rootsOver_23 : decode cX2_rootsOver 23 = .ok (.iand, 1) := by decide +kernel
theorem dX2_rootsOver_24 : decode cX2_rootsOver 24 = .ok (.iconst 1, 1) := by decide +kernel
theorem dX2_rootsOver_25 : decode cX2_rootsOver 25 = .ok (.if_icmp .ne 38, 3) := by decide +kernel
theorem dX2_rootsOver_28 : decode cX2_rootsOver 28 = .ok (.aload_n 0, 1) := by decide +kernel
theorem dX2_rootsOver_29 : decode cX2_rootsOver 29 = .ok (.aload_n 0, 1) := by decide +kernel
theorem dX2_rootsOver_30 : decode cX2_rootsOver 30 = .ok (.getfield 12, 3) := by decide +kernel
theorem dX2_rootsOver_33 : decode cX2_rootsOver 33 = .ok (.getfield 116, 3) := by decide +kernel
theorem dX2_rootsOver_36 : decode cX2_rootsOver 36 = .ok (.iload 7, 2) := by decide +kernel
theorem dX2_rootsOver_38 : decode cX2_rootsOver 38 = .ok (.iaload, 1) := by decide +kernel
theorem dX2_rootsOver_39 : decode cX2_rootsOver 39 = .ok (.iconst 1, 1) := by decide +kernel
theorem dX2_rootsOver_40 : decode cX2_rootsOver 40 = .ok (.iload_n 2, 1) := by decide +kernel
theorem dX2_rootsOver_41 : decode cX2_rootsOver 41 = .ok (.iload_n 3, 1) := by decide +kernel
theorem dX2_rootsOver_42 : decode cX2_rootsOver 42 = .ok (.iload 4, 2) := by decide +kernel
theorem dX2_rootsOver_44 : decode cX2_rootsOver 44 = .ok (.iload 5, 2) := by decide +kernel
theorem dX2_rootsOver_46 : decode cX2_rootsOver 46 = .ok (.invokevirtual 119, 3) := by decide +kernel
theorem dX2_rootsOver_49 : decode cX2_rootsOver 49 = .ok (.lconst 0, 1) := by decide +kernel
theorem dX2_rootsOver_50 : decode cX2_rootsOver 50 = .ok (.lcmp, 1) := by decide +kernel
theorem dX2_rootsOver_51 : decode cX2_rootsOver 51 = .ok (.ifCond .eq 12, 3) := by decide +kernel
theorem dX2_rootsOver_54 : decode cX2_rootsOver 54 = .ok (.iload 6, 2) := by decide +kernel
theorem dX2_rootsOver_56 : decode cX2_rootsOver 56 = .ok (.iconst 1, 1) := by decide +kernel
theorem dX2_rootsOver_57 : decode cX2_rootsOver 57 = .ok (.iload 7, 2) := by decide +kernel
theorem dX2_rootsOver_59 : decode cX2_rootsOver 59 = .ok (.ishl, 1) := by decide +kernel
theorem dX2_rootsOver_60 : decode cX2_rootsOver 60 = .ok (.ior, 1) := by decide +kernel
theorem dX2_rootsOver_61 : decode cX2_rootsOver 61 = .ok (.istore 6, 2) := by decide +kernel
theorem dX2_rootsOver_63 : decode cX2_rootsOver 63 = .ok (.iinc 7 1, 3) := by decide +kernel
theorem dX2_rootsOver_66 : decode cX2_rootsOver 66 = .ok (.goto (-60), 3) := by decide +kernel
theorem dX2_rootsOver_69 : decode cX2_rootsOver 69 = .ok (.iload 6, 2) := by decide +kernel
theorem dX2_rootsOver_71 : decode cX2_rootsOver 71 = .ok (.ireturn, 1) := by decide +kernel
theorem dX2_itemsOf_0 : decode cX2_itemsOf 0 = .ok (.iconst 0, 1) := by decide +kernel
theorem dX2_itemsOf_1 : decode cX2_itemsOf 1 = .ok (.istore_n 2, 1) := by decide +kernel
theorem dX2_itemsOf_2 : decode cX2_itemsOf 2 = .ok (.iconst 0, 1) := by decide +kernel
theorem dX2_itemsOf_3 : decode cX2_itemsOf 3 = .ok (.istore_n 3, 1) := by decide +kernel
theorem dX2_itemsOf_4 : decode cX2_itemsOf 4 = .ok (.iload_n 3, 1) := by decide +kernel
theorem dX2_itemsOf_5 : decode cX2_itemsOf 5 = .ok (.aload_n 0, 1) := by decide +kernel
theorem dX2_itemsOf_6 : decode cX2_itemsOf 6 = .ok (.getfield 12, 3) := by decide +kernel
theorem dX2_itemsOf_9 : decode cX2_itemsOf 9 = .ok (.getfield 26, 3) := by decide +kernel
theorem dX2_itemsOf_12 : decode cX2_itemsOf 12 = .ok (.if_icmp .ge 64, 3) := by decide +kernel
theorem dX2_itemsOf_15 : decode cX2_itemsOf 15 = .ok (.aload_n 0, 1) := by decide +kernel
theorem dX2_itemsOf_16 : decode cX2_itemsOf 16 = .ok (.iload_n 3, 1) := by decide +kernel
theorem dX2_itemsOf_17 : decode cX2_itemsOf 17 = .ok (.iload_n 1, 1) := by decide +kernel
theorem dX2_itemsOf_18 : decode cX2_itemsOf 18 = .ok (.invokevirtual 33, 3) := by decide +kernel
theorem dX2_itemsOf_21 : decode cX2_itemsOf 21 = .ok (.istore 4, 2) := by decide +kernel
theorem dX2_itemsOf_23 : decode cX2_itemsOf 23 = .ok (.iconst 0, 1) := by decide +kernel
theorem dX2_itemsOf_24 : decode cX2_itemsOf 24 = .ok (.istore 5, 2) := by decide +kernel
theorem dX2_itemsOf_26 : decode cX2_itemsOf 26 = .ok (.iload 5, 2) := by decide +kernel
theorem dX2_itemsOf_28 : decode cX2_itemsOf 28 = .ok (.getstatic 45, 3) := by decide +kernel
theorem dX2_itemsOf_31 : decode cX2_itemsOf 31 = .ok (.aload_n 0, 1) := by decide +kernel
theorem dX2_itemsOf_32 : decode cX2_itemsOf 32 = .ok (.getfield 30, 3) := by decide +kernel
theorem dX2_itemsOf_35 : decode cX2_itemsOf 35 = .ok (.iconst 1, 1) := by decide +kernel
theorem dX2_itemsOf_36 : decode cX2_itemsOf 36 = .ok (.iadd, 1) := by decide +kernel
theorem dX2_itemsOf_37 : decode cX2_itemsOf 37 = .ok (.iaload, 1) := by decide +kernel
theorem dX2_itemsOf_38 : decode cX2_itemsOf 38 = .ok (.if_icmp .ge 32, 3) := by decide +kernel
theorem dX2_itemsOf_41 : decode cX2_itemsOf 41 = .ok (.iload_n 2, 1) := by decide +kernel
theorem dX2_itemsOf_42 : decode cX2_itemsOf 42 = .ok (.aload_n 0, 1) := by decide +kernel
theorem dX2_itemsOf_43 : decode cX2_itemsOf 43 = .ok (.getfield 19, 3) := by decide +kernel
theorem dX2_itemsOf_46 : decode cX2_itemsOf 46 = .ok (.iload 4, 2) := by decide +kernel
theorem dX2_itemsOf_48 : decode cX2_itemsOf 48 = .ok (.iload 5, 2) := by decide +kernel
theorem dX2_itemsOf_50 : decode cX2_itemsOf 50 = .ok (.iadd, 1) := by decide +kernel
theorem dX2_itemsOf_51 : decode cX2_itemsOf 51 = .ok (.laload, 1) := by decide +kernel
theorem dX2_itemsOf_52 : decode cX2_itemsOf 52 = .ok (.lconst 0, 1) := by decide +kernel
theorem dX2_itemsOf_53 : decode cX2_itemsOf 53 = .ok (.lcmp, 1) := by decide +kernel
theorem dX2_itemsOf_54 : decode cX2_itemsOf 54 = .ok (.ifCond .ne 7, 3) := by decide +kernel
theorem dX2_itemsOf_57 : decode cX2_itemsOf 57 = .ok (.iconst 0, 1) := by decide +kernel
theorem dX2_itemsOf_58 : decode cX2_itemsOf 58 = .ok (.goto 4, 3) := by decide +kernel
theorem dX2_itemsOf_61 : decode cX2_itemsOf 61 = .ok (.iconst 1, 1) := by decide +kernel
theorem dX2_itemsOf_62 : decode cX2_itemsOf 62 = .ok (.iadd, 1) := by decide +kernel
theorem dX2_itemsOf_63 : decode cX2_itemsOf 63 = .ok (.istore_n 2, 1) := by decide +kernel
theorem dX2_itemsOf_64 : decode cX2_itemsOf 64 = .ok (.iinc 5 1, 3) := by decide +kernel
theorem dX2_itemsOf_67 : decode cX2_itemsOf 67 = .ok (.goto (-41), 3) := by decide +kernel
theorem dX2_itemsOf_70 : decode cX2_itemsOf 70 = .ok (.iinc 3 1, 3) := by decide +kernel
theorem dX2_itemsOf_73 : decode cX2_itemsOf 73 = .ok (.goto (-69), 3) := by decide +kernel
theorem dX2_itemsOf_76 : decode cX2_itemsOf 76 = .ok (.iload_n 2, 1) := by decide +kernel
theorem dX2_itemsOf_77 : decode cX2_itemsOf 77 = .ok (.ireturn, 1) := by decide +kernel
theorem dX3_init_0 : decode cX3_init 0 = .ok (.aload_n 0, 1) := by decide +kernel
theorem dX3_init_1 : decode cX3_init 1 = .ok (.invokespecial 3, 3) := by decide +kernel
theorem dX3_init_4 : decode cX3_init 4 = .ok (.aload_n 0, 1) := by decide +kernel
theorem dX3_init_5 : decode cX3_init 5 = .ok (.aload_n 1, 1) := by decide +kernel
theorem dX3_init_6 : decode cX3_init 6 = .ok (.putfield 9, 3) := by decide +kernel
theorem dX3_init_9 : decode cX3_init 9 = .ok (.return_, 1) := by decide +kernel
theorem dX3_one_0 : decode cX3_one 0 = .ok (.lconst 1, 1) := by decide +kernel
theorem dX3_one_1 : decode cX3_one 1 = .ok (.lreturn, 1) := by decide +kernel
theorem dX3_both_0 : decode cX3_both 0 = .ok (.lload_n 1, 1) := by decide +kernel
theorem dX3_both_1 : decode cX3_both 1 = .ok (.lconst 0, 1) := by decide +kernel
theorem dX3_both_2 : decode cX3_both 2 = .ok (.lcmp, 1) := by decide +kernel
theorem dX3_both_3 : decode cX3_both 3 = .ok (.ifCond .le 9, 3) := by decide +kernel
theorem dX3_both_6 : decode cX3_both 6 = .ok (.lload_n 3, 1) := by decide +kernel
theorem dX3_both_7 : decode cX3_both 7 = .ok (.lconst 0, 1) := by decide +kernel
theorem dX3_both_8 : decode cX3_both 8 = .ok (.lcmp, 1) := by decide +kernel
theorem dX3_both_9 : decode cX3_both 9 = .ok (.ifCond .gt 5, 3) := by decide +kernel
theorem dX3_both_12 : decode cX3_both 12 = .ok (.lconst 0, 1) := by decide +kernel
theorem dX3_both_13 : decode cX3_both 13 = .ok (.lreturn, 1) := by decide +kernel
theorem dX3_both_14 : decode cX3_both 14 = .ok (.lload_n 1, 1) := by decide +kernel
theorem dX3_both_15 : decode cX3_both 15 = .ok (.ldc2_w 15, 3) := by decide +kernel
theorem dX3_both_18 : decode cX3_both 18 = .ok (.lload_n 3, 1) := by decide +kernel
theorem dX3_both_19 : decode cX3_both 19 = .ok (.ldiv, 1) := by decide +kernel
theorem dX3_both_20 : decode cX3_both 20 = .ok (.lcmp, 1) := by decide +kernel
theorem dX3_both_21 : decode cX3_both 21 = .ok (.ifCond .le 9, 3) := by decide +kernel
theorem dX3_both_24 : decode cX3_both 24 = .ok (.ldc2_w 15, 3) := by decide +kernel
theorem dX3_both_27 : decode cX3_both 27 = .ok (.goto 6, 3) := by decide +kernel
theorem dX3_both_30 : decode cX3_both 30 = .ok (.lload_n 1, 1) := by decide +kernel
theorem dX3_both_31 : decode cX3_both 31 = .ok (.lload_n 3, 1) := by decide +kernel
theorem dX3_both_32 : decode cX3_both 32 = .ok (.lmul, 1) := by decide +kernel
theorem dX3_both_33 : decode cX3_both 33 = .ok (.lreturn, 1) := by decide +kernel
theorem dX3_either_0 : decode cX3_either 0 = .ok (.lload_n 1, 1) := by decide +kernel
theorem dX3_either_1 : decode cX3_either 1 = .ok (.ldc2_w 15, 3) := by decide +kernel
theorem dX3_either_4 : decode cX3_either 4 = .ok (.lload_n 3, 1) := by decide +kernel
theorem dX3_either_5 : decode cX3_either 5 = .ok (.lsub, 1) := by decide +kernel
theorem dX3_either_6 : decode cX3_either 6 = .ok (.lcmp, 1) := by decide +kernel
theorem dX3_either_7 : decode cX3_either 7 = .ok (.ifCond .le 9, 3) := by decide +kernel
theorem dX3_either_10 : decode cX3_either 10 = .ok (.ldc2_w 15, 3) := by decide +kernel
theorem dX3_either_13 : decode cX3_either 13 = .ok (.goto 6, 3) := by decide +kernel
theorem dX3_either_16 : decode cX3_either 16 = .ok (.lload_n 1, 1) := by decide +kernel
theorem dX3_either_17 : decode cX3_either 17 = .ok (.lload_n 3, 1) := by decide +kernel
theorem dX3_either_18 : decode cX3_either 18 = .ok (.ladd, 1) := by decide +kernel
theorem dX3_either_19 : decode cX3_either 19 = .ok (.lreturn, 1) := by decide +kernel
theorem dX3_placed_0 : decode cX3_placed 0 = .ok (.lload_n 2, 1) := by decide +kernel
theorem dX3_placed_1 : decode cX3_placed 1 = .ok (.lreturn, 1) := by decide +kernel
theorem dX3_letterAt_0 : decode cX3_letterAt 0 = .ok (.aload_n 0, 1) := by decide +kernel
theorem dX3_letterAt_1 : decode cX3_letterAt 1 = .ok (.getfield 9, 3) := by decide +kernel
theorem dX3_letterAt_4 : decode cX3_letterAt 4 = .ok (.iload_n 1, 1) := by decide +kernel
theorem dX3_letterAt_5 : decode cX3_letterAt 5 = .ok (.invokevirtual 17, 3) := by decide +kernel
theorem dX3_letterAt_8 : decode cX3_letterAt 8 = .ok (.iload_n 2, 1) := by decide +kernel
theorem dX3_letterAt_9 : decode cX3_letterAt 9 = .ok (.if_icmp .ne 7, 3) := by decide +kernel
theorem dX3_letterAt_12 : decode cX3_letterAt 12 = .ok (.lconst 1, 1) := by decide +kernel
theorem dX3_letterAt_13 : decode cX3_letterAt 13 = .ok (.goto 4, 3) := by decide +kernel
theorem dX3_letterAt_16 : decode cX3_letterAt 16 = .ok (.lconst 0, 1) := by decide +kernel
theorem dX3_letterAt_17 : decode cX3_letterAt 17 = .ok (.lreturn, 1) := by decide +kernel
theorem dX4_init_0 : decode cX4_init 0 = .ok (.aload_n 0, 1) := by decide +kernel
theorem dX4_init_1 : decode cX4_init 1 = .ok (.invokespecial 3, 3) := by decide +kernel
theorem dX4_init_4 : decode cX4_init 4 = .ok (.aload_n 0, 1) := by decide +kernel
theorem dX4_init_5 : decode cX4_init 5 = .ok (.bipush 9, 2) := by decide +kernel
theorem dX4_init_7 : decode cX4_init 7 = .ok (.newarray .int, 2) := by decide +kernel
theorem dX4_init_9 : decode cX4_init 9 = .ok (.putfield 9, 3) := by decide +kernel
theorem dX4_init_12 : decode cX4_init 12 = .ok (.aload_n 0, 1) := by decide +kernel
theorem dX4_init_13 : decode cX4_init 13 = .ok (.bipush 40, 2) := by decide +kernel
theorem dX4_init_15 : decode cX4_init 15 = .ok (.newarray .int, 2) := by decide +kernel
theorem dX4_init_17 : decode cX4_init 17 = .ok (.putfield 15, 3) := by decide +kernel
theorem dX4_init_20 : decode cX4_init 20 = .ok (.aload_n 0, 1) := by decide +kernel
theorem dX4_init_21 : decode cX4_init 21 = .ok (.bipush 40, 2) := by decide +kernel
theorem dX4_init_23 : decode cX4_init 23 = .ok (.newarray .int, 2) := by decide +kernel
theorem dX4_init_25 : decode cX4_init 25 = .ok (.putfield 18, 3) := by decide +kernel
theorem dX4_init_28 : decode cX4_init 28 = .ok (.aload_n 0, 1) := by decide +kernel
theorem dX4_init_29 : decode cX4_init 29 = .ok (.bipush 40, 2) := by decide +kernel
theorem dX4_init_31 : decode cX4_init 31 = .ok (.newarray .int, 2) := by decide +kernel
theorem dX4_init_33 : decode cX4_init 33 = .ok (.putfield 21, 3) := by decide +kernel
theorem dX4_init_36 : decode cX4_init 36 = .ok (.aload_n 0, 1) := by decide +kernel
theorem dX4_init_37 : decode cX4_init 37 = .ok (.bipush 40, 2) := by decide +kernel
theorem dX4_init_39 : decode cX4_init 39 = .ok (.newarray .int, 2) := by decide +kernel
theorem dX4_init_41 : decode cX4_init 41 = .ok (.putfield 24, 3) := by decide +kernel
theorem dX4_init_44 : decode cX4_init 44 = .ok (.aload_n 0, 1) := by decide +kernel
theorem dX4_init_45 : decode cX4_init 45 = .ok (.bipush 40, 2) := by decide +kernel
theorem dX4_init_47 : decode cX4_init 47 = .ok (.newarray .int, 2) := by decide +kernel
theorem dX4_init_49 : decode cX4_init 49 = .ok (.putfield 27, 3) := by decide +kernel
theorem dX4_init_52 : decode cX4_init 52 = .ok (.aload_n 0, 1) := by decide +kernel
theorem dX4_init_53 : decode cX4_init 53 = .ok (.bipush 40, 2) := by decide +kernel
theorem dX4_init_55 : decode cX4_init 55 = .ok (.newarray .int, 2) := by decide +kernel
theorem dX4_init_57 : decode cX4_init 57 = .ok (.putfield 30, 3) := by decide +kernel
theorem dX4_init_60 : decode cX4_init 60 = .ok (.aload_n 0, 1) := by decide +kernel
theorem dX4_init_61 : decode cX4_init 61 = .ok (.bipush 40, 2) := by decide +kernel
theorem dX4_init_63 : decode cX4_init 63 = .ok (.newarray .int, 2) := by decide +kernel
theorem dX4_init_65 : decode cX4_init 65 = .ok (.putfield 33, 3) := by decide +kernel
theorem dX4_init_68 : decode cX4_init 68 = .ok (.aload_n 0, 1) := by decide +kernel
theorem dX4_init_69 : decode cX4_init 69 = .ok (.bipush 40, 2) := by decide +kernel
theorem dX4_init_71 : decode cX4_init 71 = .ok (.newarray .int, 2) := by decide +kernel
theorem dX4_init_73 : decode cX4_init 73 = .ok (.putfield 36, 3) := by decide +kernel
theorem dX4_init_76 : decode cX4_init 76 = .ok (.aload_n 0, 1) := by decide +kernel
theorem dX4_init_77 : decode cX4_init 77 = .ok (.bipush 40, 2) := by decide +kernel
theorem dX4_init_79 : decode cX4_init 79 = .ok (.newarray .boolean, 2) := by decide +kernel
theorem dX4_init_81 : decode cX4_init 81 = .ok (.putfield 39, 3) := by decide +kernel
theorem dX4_init_84 : decode cX4_init 84 = .ok (.aload_n 0, 1) := by decide +kernel
theorem dX4_init_85 : decode cX4_init 85 = .ok (.bipush 40, 2) := by decide +kernel
theorem dX4_init_87 : decode cX4_init 87 = .ok (.newarray .int, 2) := by decide +kernel
theorem dX4_init_89 : decode cX4_init 89 = .ok (.putfield 43, 3) := by decide +kernel
theorem dX4_init_92 : decode cX4_init 92 = .ok (.aload_n 0, 1) := by decide +kernel
theorem dX4_init_93 : decode cX4_init 93 = .ok (.bipush 26, 2) := by decide +kernel
theorem dX4_init_95 : decode cX4_init 95 = .ok (.newarray .int, 2) := by decide +kernel
theorem dX4_init_97 : decode cX4_init 97 = .ok (.putfield 46, 3) := by decide +kernel
theorem dX4_init_100 : decode cX4_init 100 = .ok (.aload_n 0, 1) := by decide +kernel
theorem dX4_init_101 : decode cX4_init 101 = .ok (.bipush 26, 2) := by decide +kernel
theorem dX4_init_103 : decode cX4_init 103 = .ok (.newarray .int, 2) := by decide +kernel
theorem dX4_init_105 : decode cX4_init 105 = .ok (.putfield 49, 3) := by decide +kernel
theorem dX4_init_108 : decode cX4_init 108 = .ok (.return_, 1) := by decide +kernel
theorem dX4_clear_0 : decode cX4_clear 0 = .ok (.aload_n 0, 1) := by decide +kernel
theorem dX4_clear_1 : decode cX4_clear 1 = .ok (.iconst 0, 1) := by decide +kernel
theorem dX4_clear_2 : decode cX4_clear 2 = .ok (.putfield 52, 3) := by decide +kernel
theorem dX4_clear_5 : decode cX4_clear 5 = .ok (.aload_n 0, 1) := by decide +kernel
theorem dX4_clear_6 : decode cX4_clear 6 = .ok (.iconst 0, 1) := by decide +kernel
theorem dX4_clear_7 : decode cX4_clear 7 = .ok (.putfield 56, 3) := by decide +kernel
theorem dX4_clear_10 : decode cX4_clear 10 = .ok (.aload_n 0, 1) := by decide +kernel
theorem dX4_clear_11 : decode cX4_clear 11 = .ok (.iconst 0, 1) := by decide +kernel
theorem dX4_clear_12 : decode cX4_clear 12 = .ok (.putfield 59, 3) := by decide +kernel
theorem dX4_clear_15 : decode cX4_clear 15 = .ok (.aload_n 0, 1) := by decide +kernel
theorem dX4_clear_16 : decode cX4_clear 16 = .ok (.iconst 0, 1) := by decide +kernel
theorem dX4_clear_17 : decode cX4_clear 17 = .ok (.putfield 62, 3) := by decide +kernel
theorem dX4_clear_20 : decode cX4_clear 20 = .ok (.aload_n 0, 1) := by decide +kernel
theorem dX4_clear_21 : decode cX4_clear 21 = .ok (.iconst 0, 1) := by decide +kernel
theorem dX4_clear_22 : decode cX4_clear 22 = .ok (.putfield 65, 3) := by decide +kernel
theorem dX4_clear_25 : decode cX4_clear 25 = .ok (.aload_n 0, 1) := by decide +kernel
theorem dX4_clear_26 : decode cX4_clear 26 = .ok (.iconst 0, 1) := by decide +kernel
theorem dX4_clear_27 : decode cX4_clear 27 = .ok (.putfield 68, 3) := by decide +kernel
theorem dX4_clear_30 : decode cX4_clear 30 = .ok (.aload_n 0, 1) := by decide +kernel
theorem dX4_clear_31 : decode cX4_clear 31 = .ok (.getfield 9, 3) := by decide +kernel
theorem dX4_clear_34 : decode cX4_clear 34 = .ok (.iconst 0, 1) := by decide +kernel
theorem dX4_clear_35 : decode cX4_clear 35 = .ok (.iconst 0, 1) := by decide +kernel
theorem dX4_clear_36 : decode cX4_clear 36 = .ok (.iastore, 1) := by decide +kernel
theorem dX4_clear_37 : decode cX4_clear 37 = .ok (.aload_n 0, 1) := by decide +kernel
theorem dX4_clear_38 : decode cX4_clear 38 = .ok (.getfield 46, 3) := by decide +kernel
theorem dX4_clear_41 : decode cX4_clear 41 = .ok (.iconst 0, 1) := by decide +kernel
theorem dX4_clear_42 : decode cX4_clear 42 = .ok (.invokestatic 71, 3) := by decide +kernel
theorem dX4_clear_45 : decode cX4_clear 45 = .ok (.aload_n 0, 1) := by decide +kernel
theorem dX4_clear_46 : decode cX4_clear 46 = .ok (.getfield 49, 3) := by decide +kernel
theorem dX4_clear_49 : decode cX4_clear 49 = .ok (.iconst 0, 1) := by decide +kernel
theorem dX4_clear_50 : decode cX4_clear 50 = .ok (.invokestatic 71, 3) := by decide +kernel
theorem dX4_clear_53 : decode cX4_clear 53 = .ok (.return_, 1) := by decide +kernel
theorem dX4_hasTree_0 : decode cX4_hasTree 0 = .ok (.iload_n 1, 1) := by decide +kernel
theorem dX4_hasTree_1 : decode cX4_hasTree 1 = .ok (.ifCond .lt 15, 3) := by decide +kernel
theorem dX4_hasTree_4 : decode cX4_hasTree 4 = .ok (.iload_n 1, 1) := by decide +kernel
theorem dX4_hasTree_5 : decode cX4_hasTree 5 = .ok (.aload_n 0, 1) := by decide +kernel
theorem dX4_hasTree_6 : decode cX4_hasTree 6 = .ok (.getfield 52, 3) := by decide +kernel
theorem dX4_hasTree_9 : decode cX4_hasTree 9 = .ok (.if_icmp .ge 7, 3) := by decide +kernel
theorem dX4_hasTree_12 : decode cX4_hasTree 12 = .ok (.iconst 1, 1) := by decide +kernel
theorem dX4_hasTree_13 : decode cX4_hasTree 13 = .ok (.goto 4, 3) := by decide +kernel
theorem dX4_hasTree_16 : decode cX4_hasTree 16 = .ok (.iconst 0, 1) := by decide +kernel
theorem dX4_hasTree_17 : decode cX4_hasTree 17 = .ok (.ireturn, 1) := by decide +kernel
theorem dX4_hasNode_0 : decode cX4_hasNode 0 = .ok (.aload_n 0, 1) := by decide +kernel
theorem dX4_hasNode_1 : decode cX4_hasNode 1 = .ok (.iload_n 1, 1) := by decide +kernel
theorem dX4_hasNode_2 : decode cX4_hasNode 2 = .ok (.invokevirtual 77, 3) := by decide +kernel
theorem dX4_hasNode_5 : decode cX4_hasNode 5 = .ok (.ifCond .eq 20, 3) := by decide +kernel
theorem dX4_hasNode_8 : decode cX4_hasNode 8 = .ok (.iload_n 2, 1) := by decide +kernel
theorem dX4_hasNode_9 : decode cX4_hasNode 9 = .ok (.ifCond .lt 16, 3) := by decide +kernel
theorem dX4_hasNode_12 : decode cX4_hasNode 12 = .ok (.iload_n 2, 1) := by decide +kernel
theorem dX4_hasNode_13 : decode cX4_hasNode 13 = .ok (.aload_n 0, 1) := by decide +kernel
theorem dX4_hasNode_14 : decode cX4_hasNode 14 = .ok (.iload_n 1, 1) := by decide +kernel
theorem dX4_hasNode_15 : decode cX4_hasNode 15 = .ok (.invokevirtual 81, 3) := by decide +kernel
theorem dX4_hasNode_18 : decode cX4_hasNode 18 = .ok (.if_icmp .ge 7, 3) := by decide +kernel
theorem dX4_hasNode_21 : decode cX4_hasNode 21 = .ok (.iconst 1, 1) := by decide +kernel
theorem dX4_hasNode_22 : decode cX4_hasNode 22 = .ok (.goto 4, 3) := by decide +kernel
theorem dX4_hasNode_25 : decode cX4_hasNode 25 = .ok (.iconst 0, 1) := by decide +kernel
theorem dX4_hasNode_26 : decode cX4_hasNode 26 = .ok (.ireturn, 1) := by decide +kernel
theorem dX4_sizeOf_0 : decode cX4_sizeOf 0 = .ok (.aload_n 0, 1) := by decide +kernel
theorem dX4_sizeOf_1 : decode cX4_sizeOf 1 = .ok (.getfield 9, 3) := by decide +kernel
theorem dX4_sizeOf_4 : decode cX4_sizeOf 4 = .ok (.iload_n 1, 1) := by decide +kernel
theorem dX4_sizeOf_5 : decode cX4_sizeOf 5 = .ok (.iconst 1, 1) := by decide +kernel
theorem dX4_sizeOf_6 : decode cX4_sizeOf 6 = .ok (.iadd, 1) := by decide +kernel
theorem dX4_sizeOf_7 : decode cX4_sizeOf 7 = .ok (.iaload, 1) := by decide +kernel
theorem dX4_sizeOf_8 : decode cX4_sizeOf 8 = .ok (.aload_n 0, 1) := by decide +kernel
theorem dX4_sizeOf_9 : decode cX4_sizeOf 9 = .ok (.getfield 9, 3) := by decide +kernel
theorem dX4_sizeOf_12 : decode cX4_sizeOf 12 = .ok (.iload_n 1, 1) := by decide +kernel
theorem dX4_sizeOf_13 : decode cX4_sizeOf 13 = .ok (.iaload, 1) := by decide +kernel
theorem dX4_sizeOf_14 : decode cX4_sizeOf 14 = .ok (.isub, 1) := by decide +kernel
theorem dX4_sizeOf_15 : decode cX4_sizeOf 15 = .ok (.ireturn, 1) := by decide +kernel
theorem dX4_startLabel_0 : decode cX4_startLabel 0 = .ok (.aload_n 0, 1) := by decide +kernel
theorem dX4_startLabel_1 : decode cX4_startLabel 1 = .ok (.getfield 52, 3) := by decide +kernel
theorem dX4_startLabel_4 : decode cX4_startLabel 4 = .ok (.ifCond .ne 7, 3) := by decide +kernel
theorem dX4_startLabel_7 : decode cX4_startLabel 7 = .ok (.iconst (-1), 1) := by decide +kernel
theorem dX4_startLabel_8 : decode cX4_startLabel 8 = .ok (.goto 9, 3) := by decide +kernel
theorem dX4_startLabel_11 : decode cX4_startLabel 11 = .ok (.aload_n 0, 1) := by decide +kernel
theorem dX4_startLabel_12 : decode cX4_startLabel 12 = .ok (.getfield 21, 3) := by decide +kernel
theorem dX4_startLabel_15 : decode cX4_startLabel 15 = .ok (.iconst 0, 1) := by decide +kernel
theorem dX4_startLabel_16 : decode cX4_startLabel 16 = .ok (.iaload, 1) := by decide +kernel
theorem dX4_startLabel_17 : decode cX4_startLabel 17 = .ok (.ireturn, 1) := by decide +kernel
theorem dX4_hostsAtStart_0 : decode cX4_hostsAtStart 0 = .ok (.aload_n 0, 1) := by decide +kernel
theorem dX4_hostsAtStart_1 : decode cX4_hostsAtStart 1 = .ok (.getfield 52, 3) := by decide +kernel
theorem dX4_hostsAtStart_4 : decode cX4_hostsAtStart 4 = .ok (.ifCond .ne 7, 3) := by decide +kernel
theorem dX4_hostsAtStart_7 : decode cX4_hostsAtStart 7 = .ok (.iconst 0, 1) := by decide +kernel
theorem dX4_hostsAtStart_8 : decode cX4_hostsAtStart 8 = .ok (.goto 14, 3) := by decide +kernel
theorem dX4_hostsAtStart_11 : decode cX4_hostsAtStart 11 = .ok (.aload_n 0, 1) := by decide +kernel
theorem dX4_hostsAtStart_12 : decode cX4_hostsAtStart 12 = .ok (.getfield 46, 3) := by decide +kernel
theorem dX4_hostsAtStart_15 : decode cX4_hostsAtStart 15 = .ok (.aload_n 0, 1) := by decide +kernel
theorem dX4_hostsAtStart_16 : decode cX4_hostsAtStart 16 = .ok (.getfield 21, 3) := by decide +kernel
theorem dX4_hostsAtStart_19 : decode cX4_hostsAtStart 19 = .ok (.iconst 0, 1) := by decide +kernel
theorem dX4_hostsAtStart_20 : decode cX4_hostsAtStart 20 = .ok (.iaload, 1) := by decide +kernel
theorem dX4_hostsAtStart_21 : decode cX4_hostsAtStart 21 = .ok (.iaload, 1) := by decide +kernel
theorem dX4_hostsAtStart_22 : decode cX4_hostsAtStart 22 = .ok (.ireturn, 1) := by decide +kernel
theorem dX4_firstOfKind_0 : decode cX4_firstOfKind 0 = .ok (.aload_n 0, 1) := by decide +kernel
theorem dX4_firstOfKind_1 : decode cX4_firstOfKind 1 = .ok (.getfield 9, 3) := by decide +kernel
theorem dX4_firstOfKind_4 : decode cX4_firstOfKind 4 = .ok (.iload_n 1, 1) := by decide +kernel
theorem dX4_firstOfKind_5 : decode cX4_firstOfKind 5 = .ok (.iaload, 1) := by decide +kernel
theorem dX4_firstOfKind_6 : decode cX4_firstOfKind 6 = .ok (.istore_n 3, 1) := by decide +kernel
theorem dX4_firstOfKind_7 : decode cX4_firstOfKind 7 = .ok (.iload_n 3, 1) := by decide +kernel
theorem dX4_firstOfKind_8 : decode cX4_firstOfKind 8 = .ok (.aload_n 0, 1) := by decide +kernel
theorem dX4_firstOfKind_9 : decode cX4_firstOfKind 9 = .ok (.getfield 9, 3) := by decide +kernel
theorem dX4_firstOfKind_12 : decode cX4_firstOfKind 12 = .ok (.iload_n 1, 1) := by decide +kernel
theorem dX4_firstOfKind_13 : decode cX4_firstOfKind 13 = .ok (.iconst 1, 1) := by decide +kernel
theorem dX4_firstOfKind_14 : decode cX4_firstOfKind 14 = .ok (.iadd, 1) := by decide +kernel
theorem dX4_firstOfKind_15 : decode cX4_firstOfKind 15 = .ok (.iaload, 1) := by decide +kernel
theorem dX4_firstOfKind_16 : decode cX4_firstOfKind 16 = .ok (.if_icmp .ge 28, 3) := by decide +kernel
theorem dX4_firstOfKind_19 : decode cX4_firstOfKind 19 = .ok (.aload_n 0, 1) := by decide +kernel
theorem dX4_firstOfKind_20 : decode cX4_firstOfKind 20 = .ok (.getfield 18, 3) := by decide +kernel
theorem dX4_firstOfKind_23 : decode cX4_firstOfKind 23 = .ok (.iload_n 3, 1) := by decide +kernel
theorem dX4_firstOfKind_24 : decode cX4_firstOfKind 24 = .ok (.iaload, 1) := by decide +kernel
theorem dX4_firstOfKind_25 : decode cX4_firstOfKind 25 = .ok (.iload_n 2, 1) := by decide +kernel
theorem dX4_firstOfKind_26 : decode cX4_firstOfKind 26 = .ok (.if_icmp .ne 12, 3) := by decide +kernel
theorem dX4_firstOfKind_29 : decode cX4_firstOfKind 29 = .ok (.iload_n 3, 1) := by decide +kernel
theorem dX4_firstOfKind_30 : decode cX4_firstOfKind 30 = .ok (.aload_n 0, 1) := by decide +kernel
theorem dX4_firstOfKind_31 : decode cX4_firstOfKind 31 = .ok (.getfield 9, 3) := by decide +kernel
theorem dX4_firstOfKind_34 : decode cX4_firstOfKind 34 = .ok (.iload_n 1, 1) := by decide +kernel
theorem dX4_firstOfKind_35 : decode cX4_firstOfKind 35 = .ok (.iaload, 1) := by decide +kernel
theorem dX4_firstOfKind_36 : decode cX4_firstOfKind 36 = .ok (.isub, 1) := by decide +kernel
theorem dX4_firstOfKind_37 : decode cX4_firstOfKind 37 = .ok (.ireturn, 1) := by decide +kernel
theorem dX4_firstOfKind_38 : decode cX4_firstOfKind 38 = .ok (.iinc 3 1, 3) := by decide +kernel
theorem dX4_firstOfKind_41 : decode cX4_firstOfKind 41 = .ok (.goto (-34), 3) := by decide +kernel
theorem dX4_firstOfKind_44 : decode cX4_firstOfKind 44 = .ok (.iconst (-1), 1) := by decide +kernel
theorem dX4_firstOfKind_45 : decode cX4_firstOfKind 45 = .ok (.ireturn, 1) := by decide +kernel
theorem dX4_placesOf_0 : decode cX4_placesOf 0 = .ok (.iconst 0, 1) := by decide +kernel
theorem dX4_placesOf_1 : decode cX4_placesOf 1 = .ok (.istore_n 2, 1) := by decide +kernel
theorem dX4_placesOf_2 : decode cX4_placesOf 2 = .ok (.aload_n 0, 1) := by decide +kernel
theorem dX4_placesOf_3 : decode cX4_placesOf 3 = .ok (.getfield 9, 3) := by decide +kernel
theorem dX4_placesOf_6 : decode cX4_placesOf 6 = .ok (.iload_n 1, 1) := by decide +kernel
theorem dX4_placesOf_7 : decode cX4_placesOf 7 = .ok (.iaload, 1) := by decide +kernel
theorem dX4_placesOf_8 : decode cX4_placesOf 8 = .ok (.istore_n 3, 1) := by decide +kernel
theorem dX4_placesOf_9 : decode cX4_placesOf 9 = .ok (.iload_n 3, 1) := by decide +kernel
theorem dX4_placesOf_10 : decode cX4_placesOf 10 = .ok (.aload_n 0, 1) := by decide +kernel
theorem dX4_placesOf_11 : decode cX4_placesOf 11 = .ok (.getfield 9, 3) := by decide +kernel
theorem dX4_placesOf_14 : decode cX4_placesOf 14 = .ok (.iload_n 1, 1) := by decide +kernel
theorem dX4_placesOf_15 : decode cX4_placesOf 15 = .ok (.iconst 1, 1) := by decide +kernel
theorem dX4_placesOf_16 : decode cX4_placesOf 16 = .ok (.iadd, 1) := by decide +kernel
theorem dX4_placesOf_17 : decode cX4_placesOf 17 = .ok (.iaload, 1) := by decide +kernel
theorem dX4_placesOf_18 : decode cX4_placesOf 18 = .ok (.if_icmp .ge 22, 3) := by decide +kernel
theorem dX4_placesOf_21 : decode cX4_placesOf 21 = .ok (.aload_n 0, 1) := by decide +kernel
theorem dX4_placesOf_22 : decode cX4_placesOf 22 = .ok (.getfield 18, 3) := by decide +kernel
theorem dX4_placesOf_25 : decode cX4_placesOf 25 = .ok (.iload_n 3, 1) := by decide +kernel
theorem dX4_placesOf_26 : decode cX4_placesOf 26 = .ok (.iaload, 1) := by decide +kernel
theorem dX4_placesOf_27 : decode cX4_placesOf 27 = .ok (.iconst 4, 1) := by decide +kernel
theorem dX4_placesOf_28 : decode cX4_placesOf 28 = .ok (.if_icmp .ne 6, 3) := by decide +kernel
theorem dX4_placesOf_31 : decode cX4_placesOf 31 = .ok (.iinc 2 1, 3) := by decide +kernel
theorem dX4_placesOf_34 : decode cX4_placesOf 34 = .ok (.iinc 3 1, 3) := by decide +kernel
theorem dX4_placesOf_37 : decode cX4_placesOf 37 = .ok (.goto (-28), 3) := by decide +kernel
theorem dX4_placesOf_40 : decode cX4_placesOf 40 = .ok (.iload_n 2, 1) := by decide +kernel
theorem dX4_placesOf_41 : decode cX4_placesOf 41 = .ok (.ireturn, 1) := by decide +kernel
theorem dX4_openTree_0 : decode cX4_openTree 0 = .ok (.aload_n 0, 1) := by decide +kernel
theorem dX4_openTree_1 : decode cX4_openTree 1 = .ok (.dup, 1) := by decide +kernel
theorem dX4_openTree_2 : decode cX4_openTree 2 = .ok (.getfield 52, 3) := by decide +kernel
theorem dX4_openTree_5 : decode cX4_openTree 5 = .ok (.iconst 1, 1) := by decide +kernel
theorem dX4_openTree_6 : decode cX4_openTree 6 = .ok (.iadd, 1) := by decide +kernel
theorem dX4_openTree_7 : decode cX4_openTree 7 = .ok (.putfield 52, 3) := by decide +kernel
theorem dX4_openTree_10 : decode cX4_openTree 10 = .ok (.aload_n 0, 1) := by decide +kernel
theorem dX4_openTree_11 : decode cX4_openTree 11 = .ok (.getfield 9, 3) := by decide +kernel
theorem dX4_openTree_14 : decode cX4_openTree 14 = .ok (.aload_n 0, 1) := by decide +kernel
theorem dX4_openTree_15 : decode cX4_openTree 15 = .ok (.getfield 52, 3) := by decide +kernel
theorem dX4_openTree_18 : decode cX4_openTree 18 = .ok (.aload_n 0, 1) := by decide +kernel
theorem dX4_openTree_19 : decode cX4_openTree 19 = .ok (.getfield 56, 3) := by decide +kernel
theorem dX4_openTree_22 : decode cX4_openTree 22 = .ok (.iastore, 1) := by decide +kernel
theorem dX4_openTree_23 : decode cX4_openTree 23 = .ok (.return_, 1) := by decide +kernel
theorem dX4_hasRoomForNode_0 : decode cX4_hasRoomForNode 0 = .ok (.aload_n 0, 1) := by decide +kernel
theorem dX4_hasRoomForNode_1 : decode cX4_hasRoomForNode 1 = .ok (.getfield 56, 3) := by decide +kernel
theorem dX4_hasRoomForNode_4 : decode cX4_hasRoomForNode 4 = .ok (.bipush 40, 2) := by decide +kernel
theorem dX4_hasRoomForNode_6 : decode cX4_hasRoomForNode 6 = .ok (.if_icmp .ge 28, 3) := by decide +kernel
theorem dX4_hasRoomForNode_9 : decode cX4_hasRoomForNode 9 = .ok (.aload_n 0, 1) := by decide +kernel
theorem dX4_hasRoomForNode_10 : decode cX4_hasRoomForNode 10 = .ok (.getfield 56, 3) := by decide +kernel
theorem dX4_hasRoomForNode_13 : decode cX4_hasRoomForNode 13 = .ok (.aload_n 0, 1) := by decide +kernel
theorem dX4_hasRoomForNode_14 : decode cX4_hasRoomForNode 14 = .ok (.getfield 9, 3) := by decide +kernel
theorem dX4_hasRoomForNode_17 : decode cX4_hasRoomForNode 17 = .ok (.aload_n 0, 1) := by decide +kernel
theorem dX4_hasRoomForNode_18 : decode cX4_hasRoomForNode 18 = .ok (.getfield 52, 3) := by decide +kernel
theorem dX4_hasRoomForNode_21 : decode cX4_hasRoomForNode 21 = .ok (.iconst 1, 1) := by decide +kernel
theorem dX4_hasRoomForNode_22 : decode cX4_hasRoomForNode 22 = .ok (.isub, 1) := by decide +kernel
theorem dX4_hasRoomForNode_23 : decode cX4_hasRoomForNode 23 = .ok (.iaload, 1) := by decide +kernel
theorem dX4_hasRoomForNode_24 : decode cX4_hasRoomForNode 24 = .ok (.isub, 1) := by decide +kernel
theorem dX4_hasRoomForNode_25 : decode cX4_hasRoomForNode 25 = .ok (.bipush 12, 2) := by decide +kernel
theorem dX4_hasRoomForNode_27 : decode cX4_hasRoomForNode 27 = .ok (.if_icmp .ge 7, 3) := by decide +kernel
theorem dX4_hasRoomForNode_30 : decode cX4_hasRoomForNode 30 = .ok (.iconst 1, 1) := by decide +kernel
theorem dX4_hasRoomForNode_31 : decode cX4_hasRoomForNode 31 = .ok (.goto 4, 3) := by decide +kernel
theorem dX4_hasRoomForNode_34 : decode cX4_hasRoomForNode 34 = .ok (.iconst 0, 1) := by decide +kernel
theorem dX4_hasRoomForNode_35 : decode cX4_hasRoomForNode 35 = .ok (.ireturn, 1) := by decide +kernel
theorem dX4_addNode_0 : decode cX4_addNode 0 = .ok (.aload_n 0, 1) := by decide +kernel
theorem dX4_addNode_1 : decode cX4_addNode 1 = .ok (.getfield 56, 3) := by decide +kernel
theorem dX4_addNode_4 : decode cX4_addNode 4 = .ok (.istore 4, 2) := by decide +kernel
theorem dX4_addNode_6 : decode cX4_addNode 6 = .ok (.aload_n 0, 1) := by decide +kernel
theorem dX4_addNode_7 : decode cX4_addNode 7 = .ok (.dup, 1) := by decide +kernel
theorem dX4_addNode_8 : decode cX4_addNode 8 = .ok (.getfield 56, 3) := by decide +kernel
theorem dX4_addNode_11 : decode cX4_addNode 11 = .ok (.iconst 1, 1) := by decide +kernel
theorem dX4_addNode_12 : decode cX4_addNode 12 = .ok (.iadd, 1) := by decide +kernel
theorem dX4_addNode_13 : decode cX4_addNode 13 = .ok (.putfield 56, 3) := by decide +kernel
theorem dX4_addNode_16 : decode cX4_addNode 16 = .ok (.aload_n 0, 1) := by decide +kernel
theorem dX4_addNode_17 : decode cX4_addNode 17 = .ok (.getfield 9, 3) := by decide +kernel
theorem dX4_addNode_20 : decode cX4_addNode 20 = .ok (.aload_n 0, 1) := by decide +kernel
theorem dX4_addNode_21 : decode cX4_addNode 21 = .ok (.getfield 52, 3) := by decide +kernel
theorem dX4_addNode_24 : decode cX4_addNode 24 = .ok (.aload_n 0, 1) := by decide +kernel
theorem dX4_addNode_25 : decode cX4_addNode 25 = .ok (.getfield 56, 3) := by decide +kernel
theorem dX4_addNode_28 : decode cX4_addNode 28 = .ok (.iastore, 1) := by decide +kernel
theorem dX4_addNode_29 : decode cX4_addNode 29 = .ok (.aload_n 0, 1) := by decide +kernel
theorem dX4_addNode_30 : decode cX4_addNode 30 = .ok (.getfield 15, 3) := by decide +kernel
theorem dX4_addNode_33 : decode cX4_addNode 33 = .ok (.iload 4, 2) := by decide +kernel
theorem dX4_addNode_35 : decode cX4_addNode 35 = .ok (.aload_n 0, 1) := by decide +kernel
theorem dX4_addNode_36 : decode cX4_addNode 36 = .ok (.getfield 52, 3) := by decide +kernel
theorem dX4_addNode_39 : decode cX4_addNode 39 = .ok (.iconst 1, 1) := by decide +kernel
theorem dX4_addNode_40 : decode cX4_addNode 40 = .ok (.isub, 1) := by decide +kernel
theorem dX4_addNode_41 : decode cX4_addNode 41 = .ok (.iastore, 1) := by decide +kernel
theorem dX4_addNode_42 : decode cX4_addNode 42 = .ok (.aload_n 0, 1) := by decide +kernel
theorem dX4_addNode_43 : decode cX4_addNode 43 = .ok (.getfield 18, 3) := by decide +kernel
theorem dX4_addNode_46 : decode cX4_addNode 46 = .ok (.iload 4, 2) := by decide +kernel
theorem dX4_addNode_48 : decode cX4_addNode 48 = .ok (.iload_n 1, 1) := by decide +kernel
theorem dX4_addNode_49 : decode cX4_addNode 49 = .ok (.iastore, 1) := by decide +kernel
theorem dX4_addNode_50 : decode cX4_addNode 50 = .ok (.aload_n 0, 1) := by decide +kernel
theorem dX4_addNode_51 : decode cX4_addNode 51 = .ok (.getfield 21, 3) := by decide +kernel
theorem dX4_addNode_54 : decode cX4_addNode 54 = .ok (.iload 4, 2) := by decide +kernel
theorem dX4_addNode_56 : decode cX4_addNode 56 = .ok (.iload_n 2, 1) := by decide +kernel
theorem dX4_addNode_57 : decode cX4_addNode 57 = .ok (.iastore, 1) := by decide +kernel
theorem dX4_addNode_58 : decode cX4_addNode 58 = .ok (.aload_n 0, 1) := by decide +kernel
theorem dX4_addNode_59 : decode cX4_addNode 59 = .ok (.getfield 24, 3) := by decide +kernel
theorem dX4_addNode_62 : decode cX4_addNode 62 = .ok (.iload 4, 2) := by decide +kernel
theorem dX4_addNode_64 : decode cX4_addNode 64 = .ok (.iconst 0, 1) := by decide +kernel
theorem dX4_addNode_65 : decode cX4_addNode 65 = .ok (.iastore, 1) := by decide +kernel
theorem dX4_addNode_66 : decode cX4_addNode 66 = .ok (.aload_n 0, 1) := by decide +kernel
theorem dX4_addNode_67 : decode cX4_addNode 67 = .ok (.getfield 27, 3) := by decide +kernel
theorem dX4_addNode_70 : decode cX4_addNode 70 = .ok (.iload 4, 2) := by decide +kernel
theorem dX4_addNode_72 : decode cX4_addNode 72 = .ok (.iconst (-1), 1) := by decide +kernel
theorem dX4_addNode_73 : decode cX4_addNode 73 = .ok (.iastore, 1) := by decide +kernel
theorem dX4_addNode_74 : decode cX4_addNode 74 = .ok (.aload_n 0, 1) := by decide +kernel
theorem dX4_addNode_75 : decode cX4_addNode 75 = .ok (.getfield 30, 3) := by decide +kernel
theorem dX4_addNode_78 : decode cX4_addNode 78 = .ok (.iload 4, 2) := by decide +kernel
theorem dX4_addNode_80 : decode cX4_addNode 80 = .ok (.iconst (-1), 1) := by decide +kernel
theorem dX4_addNode_81 : decode cX4_addNode 81 = .ok (.iastore, 1) := by decide +kernel
theorem dX4_addNode_82 : decode cX4_addNode 82 = .ok (.aload_n 0, 1) := by decide +kernel
theorem dX4_addNode_83 : decode cX4_addNode 83 = .ok (.getfield 33, 3) := by decide +kernel
theorem dX4_addNode_86 : decode cX4_addNode 86 = .ok (.iload 4, 2) := by decide +kernel
theorem dX4_addNode_88 : decode cX4_addNode 88 = .ok (.iload_n 3, 1) := by decide +kernel
theorem dX4_addNode_89 : decode cX4_addNode 89 = .ok (.iastore, 1) := by decide +kernel
theorem dX4_addNode_90 : decode cX4_addNode 90 = .ok (.aload_n 0, 1) := by decide +kernel
theorem dX4_addNode_91 : decode cX4_addNode 91 = .ok (.getfield 36, 3) := by decide +kernel
theorem dX4_addNode_94 : decode cX4_addNode 94 = .ok (.iload 4, 2) := by decide +kernel
theorem dX4_addNode_96 : decode cX4_addNode 96 = .ok (.iconst 0, 1) := by decide +kernel
theorem dX4_addNode_97 : decode cX4_addNode 97 = .ok (.iastore, 1) := by decide +kernel
theorem dX4_addNode_98 : decode cX4_addNode 98 = .ok (.aload_n 0, 1) := by decide +kernel
theorem dX4_addNode_99 : decode cX4_addNode 99 = .ok (.getfield 39, 3) := by decide +kernel
theorem dX4_addNode_102 : decode cX4_addNode 102 = .ok (.iload 4, 2) := by decide +kernel
theorem dX4_addNode_104 : decode cX4_addNode 104 = .ok (.iconst 0, 1) := by decide +kernel
theorem dX4_addNode_105 : decode cX4_addNode 105 = .ok (.bastore, 1) := by decide +kernel
theorem dX4_addNode_106 : decode cX4_addNode 106 = .ok (.iload_n 3, 1) := by decide +kernel
theorem dX4_addNode_107 : decode cX4_addNode 107 = .ok (.iconst (-1), 1) := by decide +kernel
theorem dX4_addNode_108 : decode cX4_addNode 108 = .ok (.if_icmp .eq 24, 3) := by decide +kernel
theorem dX4_addNode_111 : decode cX4_addNode 111 = .ok (.aload_n 0, 1) := by decide +kernel
theorem dX4_addNode_112 : decode cX4_addNode 112 = .ok (.getfield 27, 3) := by decide +kernel
theorem dX4_addNode_115 : decode cX4_addNode 115 = .ok (.iload_n 3, 1) := by decide +kernel
theorem dX4_addNode_116 : decode cX4_addNode 116 = .ok (.iaload, 1) := by decide +kernel
theorem dX4_addNode_117 : decode cX4_addNode 117 = .ok (.iconst (-1), 1) := by decide +kernel
theorem dX4_addNode_118 : decode cX4_addNode 118 = .ok (.if_icmp .ne 14, 3) := by decide +kernel
theorem dX4_addNode_121 : decode cX4_addNode 121 = .ok (.aload_n 0, 1) := by decide +kernel
theorem dX4_addNode_122 : decode cX4_addNode 122 = .ok (.getfield 27, 3) := by decide +kernel
theorem dX4_addNode_125 : decode cX4_addNode 125 = .ok (.iload_n 3, 1) := by decide +kernel
theorem dX4_addNode_126 : decode cX4_addNode 126 = .ok (.iload 4, 2) := by decide +kernel
theorem dX4_addNode_128 : decode cX4_addNode 128 = .ok (.iastore, 1) := by decide +kernel
theorem dX4_addNode_129 : decode cX4_addNode 129 = .ok (.goto 16, 3) := by decide +kernel
theorem dX4_addNode_132 : decode cX4_addNode 132 = .ok (.iload_n 3, 1) := by decide +kernel
theorem dX4_addNode_133 : decode cX4_addNode 133 = .ok (.iconst (-1), 1) := by decide +kernel
theorem dX4_addNode_134 : decode cX4_addNode 134 = .ok (.if_icmp .eq 11, 3) := by decide +kernel
theorem dX4_addNode_137 : decode cX4_addNode 137 = .ok (.aload_n 0, 1) := by decide +kernel
theorem dX4_addNode_138 : decode cX4_addNode 138 = .ok (.getfield 30, 3) := by decide +kernel
theorem dX4_addNode_141 : decode cX4_addNode 141 = .ok (.iload_n 3, 1) := by decide +kernel
theorem dX4_addNode_142 : decode cX4_addNode 142 = .ok (.iload 4, 2) := by decide +kernel
theorem dX4_addNode_144 : decode cX4_addNode 144 = .ok (.iastore, 1) := by decide +kernel
theorem dX4_addNode_145 : decode cX4_addNode 145 = .ok (.iload 4, 2) := by decide +kernel
theorem dX4_addNode_147 : decode cX4_addNode 147 = .ok (.ireturn, 1) := by decide +kernel
theorem dX4_addLetter_0 : decode cX4_addLetter 0 = .ok (.aload_n 0, 1) := by decide +kernel
theorem dX4_addLetter_1 : decode cX4_addLetter 1 = .ok (.iconst 1, 1) := by decide +kernel
theorem dX4_addLetter_2 : decode cX4_addLetter 2 = .ok (.iload_n 1, 1) := by decide +kernel
theorem dX4_addLetter_3 : decode cX4_addLetter 3 = .ok (.iload_n 2, 1) := by decide +kernel
theorem dX4_addLetter_4 : decode cX4_addLetter 4 = .ok (.invokevirtual 85, 3) := by decide +kernel
theorem dX4_addLetter_7 : decode cX4_addLetter 7 = .ok (.istore_n 3, 1) := by decide +kernel
theorem dX4_addLetter_8 : decode cX4_addLetter 8 = .ok (.aload_n 0, 1) := by decide +kernel
theorem dX4_addLetter_9 : decode cX4_addLetter 9 = .ok (.dup, 1) := by decide +kernel
theorem dX4_addLetter_10 : decode cX4_addLetter 10 = .ok (.getfield 68, 3) := by decide +kernel
theorem dX4_addLetter_13 : decode cX4_addLetter 13 = .ok (.iconst 1, 1) := by decide +kernel
theorem dX4_addLetter_14 : decode cX4_addLetter 14 = .ok (.iload_n 1, 1) := by decide +kernel
theorem dX4_addLetter_15 : decode cX4_addLetter 15 = .ok (.ishl, 1) := by decide +kernel
theorem dX4_addLetter_16 : decode cX4_addLetter 16 = .ok (.ior, 1) := by decide +kernel
theorem dX4_addLetter_17 : decode cX4_addLetter 17 = .ok (.putfield 68, 3) := by decide +kernel
theorem dX4_addLetter_20 : decode cX4_addLetter 20 = .ok (.iload_n 3, 1) := by decide +kernel
theorem dX4_addLetter_21 : decode cX4_addLetter 21 = .ok (.istore 4, 2) := by decide +kernel
theorem dX4_addLetter_23 : decode cX4_addLetter 23 = .ok (.iconst 0, 1) := by decide +kernel
theorem dX4_addLetter_24 : decode cX4_addLetter 24 = .ok (.istore 5, 2) := by decide +kernel
theorem dX4_addLetter_26 : decode cX4_addLetter 26 = .ok (.iload 5, 2) := by decide +kernel
theorem dX4_addLetter_28 : decode cX4_addLetter 28 = .ok (.bipush 12, 2) := by decide +kernel
theorem dX4_addLetter_30 : decode cX4_addLetter 30 = .ok (.if_icmp .ge 35, 3) := by decide +kernel
theorem dX4_addLetter_33 : decode cX4_addLetter 33 = .ok (.iload 4, 2) := by decide +kernel
theorem dX4_addLetter_35 : decode cX4_addLetter 35 = .ok (.iconst (-1), 1) := by decide +kernel
theorem dX4_addLetter_36 : decode cX4_addLetter 36 = .ok (.if_icmp .eq 29, 3) := by decide +kernel
theorem dX4_addLetter_39 : decode cX4_addLetter 39 = .ok (.aload_n 0, 1) := by decide +kernel
theorem dX4_addLetter_40 : decode cX4_addLetter 40 = .ok (.getfield 36, 3) := by decide +kernel
theorem dX4_addLetter_43 : decode cX4_addLetter 43 = .ok (.iload 4, 2) := by decide +kernel
theorem dX4_addLetter_45 : decode cX4_addLetter 45 = .ok (.dup2, 1) := by decide +kernel
theorem dX4_addLetter_46 : decode cX4_addLetter 46 = .ok (.iaload, 1) := by decide +kernel
theorem dX4_addLetter_47 : decode cX4_addLetter 47 = .ok (.iconst 1, 1) := by decide +kernel
theorem dX4_addLetter_48 : decode cX4_addLetter 48 = .ok (.iadd, 1) := by decide +kernel
theorem dX4_addLetter_49 : decode cX4_addLetter 49 = .ok (.iastore, 1) := by decide +kernel
theorem dX4_addLetter_50 : decode cX4_addLetter 50 = .ok (.aload_n 0, 1) := by decide +kernel
theorem dX4_addLetter_51 : decode cX4_addLetter 51 = .ok (.getfield 33, 3) := by decide +kernel
theorem dX4_addLetter_54 : decode cX4_addLetter 54 = .ok (.iload 4, 2) := by decide +kernel
theorem dX4_addLetter_56 : decode cX4_addLetter 56 = .ok (.iaload, 1) := by decide +kernel
theorem dX4_addLetter_57 : decode cX4_addLetter 57 = .ok (.istore 4, 2) := by decide +kernel
theorem dX4_addLetter_59 : decode cX4_addLetter 59 = .ok (.iinc 5 1, 3) := by decide +kernel
theorem dX4_addLetter_62 : decode cX4_addLetter 62 = .ok (.goto (-36), 3) := by decide +kernel
theorem dX4_addLetter_65 : decode cX4_addLetter 65 = .ok (.return_, 1) := by decide +kernel
theorem dX4_addFoot_0 : decode cX4_addFoot 0 = .ok (.aload_n 0, 1) := by decide +kernel
theorem dX4_addFoot_1 : decode cX4_addFoot 1 = .ok (.iconst 3, 1) := by decide +kernel
theorem dX4_addFoot_2 : decode cX4_addFoot 2 = .ok (.iload_n 1, 1) := by decide +kernel
theorem dX4_addFoot_3 : decode cX4_addFoot 3 = .ok (.iload_n 2, 1) := by decide +kernel
theorem dX4_addFoot_4 : decode cX4_addFoot 4 = .ok (.invokevirtual 85, 3) := by decide +kernel
theorem dX4_addFoot_7 : decode cX4_addFoot 7 = .ok (.istore_n 3, 1) := by decide +kernel
theorem dX4_addFoot_8 : decode cX4_addFoot 8 = .ok (.iload_n 3, 1) := by decide +kernel
theorem dX4_addFoot_9 : decode cX4_addFoot 9 = .ok (.istore 4, 2) := by decide +kernel
theorem dX4_addFoot_11 : decode cX4_addFoot 11 = .ok (.iconst 0, 1) := by decide +kernel
theorem dX4_addFoot_12 : decode cX4_addFoot 12 = .ok (.istore 5, 2) := by decide +kernel
theorem dX4_addFoot_14 : decode cX4_addFoot 14 = .ok (.iload 5, 2) := by decide +kernel
theorem dX4_addFoot_16 : decode cX4_addFoot 16 = .ok (.bipush 12, 2) := by decide +kernel
theorem dX4_addFoot_18 : decode cX4_addFoot 18 = .ok (.if_icmp .ge 32, 3) := by decide +kernel
theorem dX4_addFoot_21 : decode cX4_addFoot 21 = .ok (.iload 4, 2) := by decide +kernel
theorem dX4_addFoot_23 : decode cX4_addFoot 23 = .ok (.iconst (-1), 1) := by decide +kernel
theorem dX4_addFoot_24 : decode cX4_addFoot 24 = .ok (.if_icmp .eq 26, 3) := by decide +kernel
theorem dX4_addFoot_27 : decode cX4_addFoot 27 = .ok (.aload_n 0, 1) := by decide +kernel
theorem dX4_addFoot_28 : decode cX4_addFoot 28 = .ok (.getfield 39, 3) := by decide +kernel
theorem dX4_addFoot_31 : decode cX4_addFoot 31 = .ok (.iload 4, 2) := by decide +kernel
theorem dX4_addFoot_33 : decode cX4_addFoot 33 = .ok (.iconst 1, 1) := by decide +kernel
theorem dX4_addFoot_34 : decode cX4_addFoot 34 = .ok (.bastore, 1) := by decide +kernel
theorem dX4_addFoot_35 : decode cX4_addFoot 35 = .ok (.aload_n 0, 1) := by decide +kernel
theorem dX4_addFoot_36 : decode cX4_addFoot 36 = .ok (.getfield 33, 3) := by decide +kernel
theorem dX4_addFoot_39 : decode cX4_addFoot 39 = .ok (.iload 4, 2) := by decide +kernel
theorem dX4_addFoot_41 : decode cX4_addFoot 41 = .ok (.iaload, 1) := by decide +kernel
theorem dX4_addFoot_42 : decode cX4_addFoot 42 = .ok (.istore 4, 2) := by decide +kernel
theorem dX4_addFoot_44 : decode cX4_addFoot 44 = .ok (.iinc 5 1, 3) := by decide +kernel
theorem dX4_addFoot_47 : decode cX4_addFoot 47 = .ok (.goto (-33), 3) := by decide +kernel
theorem dX4_addFoot_50 : decode cX4_addFoot 50 = .ok (.return_, 1) := by decide +kernel
theorem dX4_closeTree_0 : decode cX4_closeTree 0 = .ok (.aload_n 0, 1) := by decide +kernel
theorem dX4_closeTree_1 : decode cX4_closeTree 1 = .ok (.getfield 52, 3) := by decide +kernel
theorem dX4_closeTree_4 : decode cX4_closeTree 4 = .ok (.iconst 1, 1) := by decide +kernel
theorem dX4_closeTree_5 : decode cX4_closeTree 5 = .ok (.isub, 1) := by decide +kernel
theorem dX4_closeTree_6 : decode cX4_closeTree 6 = .ok (.istore_n 1, 1) := by decide +kernel
theorem dX4_closeTree_7 : decode cX4_closeTree 7 = .ok (.aload_n 0, 1) := by decide +kernel
theorem dX4_closeTree_8 : decode cX4_closeTree 8 = .ok (.getfield 9, 3) := by decide +kernel
theorem dX4_closeTree_11 : decode cX4_closeTree 11 = .ok (.iload_n 1, 1) := by decide +kernel
theorem dX4_closeTree_12 : decode cX4_closeTree 12 = .ok (.iaload, 1) := by decide +kernel
theorem dX4_closeTree_13 : decode cX4_closeTree 13 = .ok (.istore_n 2, 1) := by decide +kernel
theorem dX4_closeTree_14 : decode cX4_closeTree 14 = .ok (.aload_n 0, 1) := by decide +kernel
theorem dX4_closeTree_15 : decode cX4_closeTree 15 = .ok (.getfield 39, 3) := by decide +kernel
theorem dX4_closeTree_18 : decode cX4_closeTree 18 = .ok (.iload_n 2, 1) := by decide +kernel
theorem dX4_closeTree_19 : decode cX4_closeTree 19 = .ok (.baload, 1) := by decide +kernel
theorem dX4_closeTree_20 : decode cX4_closeTree 20 = .ok (.ifCond .eq 35, 3) := by decide +kernel
theorem dX4_closeTree_23 : decode cX4_closeTree 23 = .ok (.aload_n 0, 1) := by decide +kernel
theorem dX4_closeTree_24 : decode cX4_closeTree 24 = .ok (.dup, 1) := by decide +kernel
theorem dX4_closeTree_25 : decode cX4_closeTree 25 = .ok (.getfield 62, 3) := by decide +kernel
theorem dX4_closeTree_28 : decode cX4_closeTree 28 = .ok (.iconst 1, 1) := by decide +kernel
theorem dX4_closeTree_29 : decode cX4_closeTree 29 = .ok (.iload_n 1, 1) := by decide +kernel
theorem dX4_closeTree_30 : decode cX4_closeTree 30 = .ok (.ishl, 1) := by decide +kernel
theorem dX4_closeTree_31 : decode cX4_closeTree 31 = .ok (.ior, 1) := by decide +kernel
theorem dX4_closeTree_32 : decode cX4_closeTree 32 = .ok (.putfield 62, 3) := by decide +kernel
theorem dX4_closeTree_35 : decode cX4_closeTree 35 = .ok (.aload_n 0, 1) := by decide +kernel
theorem dX4_closeTree_36 : decode cX4_closeTree 36 = .ok (.getfield 49, 3) := by decide +kernel
theorem dX4_closeTree_39 : decode cX4_closeTree 39 = .ok (.aload_n 0, 1) := by decide +kernel
theorem dX4_closeTree_40 : decode cX4_closeTree 40 = .ok (.getfield 21, 3) := by decide +kernel
theorem dX4_closeTree_43 : decode cX4_closeTree 43 = .ok (.iload_n 2, 1) := by decide +kernel
theorem dX4_closeTree_44 : decode cX4_closeTree 44 = .ok (.iaload, 1) := by decide +kernel
theorem dX4_closeTree_45 : decode cX4_closeTree 45 = .ok (.dup2, 1) := by decide +kernel
theorem dX4_closeTree_46 : decode cX4_closeTree 46 = .ok (.iaload, 1) := by decide +kernel
theorem dX4_closeTree_47 : decode cX4_closeTree 47 = .ok (.iconst 1, 1) := by decide +kernel
theorem dX4_closeTree_48 : decode cX4_closeTree 48 = .ok (.iload_n 1, 1) := by decide +kernel
theorem dX4_closeTree_49 : decode cX4_closeTree 49 = .ok (.ishl, 1) := by decide +kernel
theorem dX4_closeTree_50 : decode cX4_closeTree 50 = .ok (.ior, 1) := by decide +kernel
theorem dX4_closeTree_51 : decode cX4_closeTree 51 = .ok (.iastore, 1) := by decide +kernel
theorem dX4_closeTree_52 : decode cX4_closeTree 52 = .ok (.goto 32, 3) := by decide +kernel
theorem dX4_closeTree_55 : decode cX4_closeTree 55 = .ok (.aload_n 0, 1) := by decide +kernel
theorem dX4_closeTree_56 : decode cX4_closeTree 56 = .ok (.dup, 1) := by decide +kernel
theorem dX4_closeTree_57 : decode cX4_closeTree 57 = .ok (.getfield 59, 3) := by decide +kernel
theorem dX4_closeTree_60 : decode cX4_closeTree 60 = .ok (.iconst 1, 1) := by decide +kernel
theorem dX4_closeTree_61 : decode cX4_closeTree 61 = .ok (.iload_n 1, 1) := by decide +kernel
theorem dX4_closeTree_62 : decode cX4_closeTree 62 = .ok (.ishl, 1) := by decide +kernel
theorem dX4_closeTree_63 : decode cX4_closeTree 63 = .ok (.ior, 1) := by decide +kernel
