set_option maxHeartbeats 4000000 in
set_option maxRecDepth 100000 in
theorem c_Su_placed {l : Launch} {g : GP} (d : Nat) (hd : 0 ≤ d) (l0 l1 l2 : Int) (h : Hp) (y : Int) (hf : Su_placed l0 l1 l2 = some y) : zM l yX8_placed cX8_placed 4 (some .long) d 0 0 g 157 h [(2, l0), (0, l1), (1, l2)] 157 h (some (1, y)) := by
  refine z_start (by decide) (Nat.le_of_ble_eq_true rfl) (fun x X hK _ _ _ hl => ?_)
  show ZV g x 4 h 0 [(0, (2, l0)), (1, (0, l1)), (2, (1, l2))] []
  unfold Su_placed at hf
  refine z_lload_n X dX8_placed_0 2 rfl ?_
  refine z_lconst0 X dX8_placed_1 ?_
  refine z_l_ne X dX8_placed_2 dX8_placed_3 rfl (fun hc2 => ?_) (fun hc2 => ?_)
  · rw [if_neg hc2] at hf
    refine z_lload_n X dX8_placed_10 2 rfl ?_
    refine z_lconst1 X dX8_placed_11 ?_
    refine z_iload_n X dX8_placed_12 1 rfl ?_
    refine z_lshl X dX8_placed_13 ?_
    refine z_lor X dX8_placed_14 ?_
    refine z_lconst1 X dX8_placed_15 ?_
    refine z_iload_n X dX8_placed_16 1 rfl ?_
    refine z_bipush X dX8_placed_17 kb_8 kc_8 ?_
    refine z_iadd X dX8_placed_19 ?_
    refine z_lshl X dX8_placed_20 ?_
    refine z_lor X dX8_placed_21 ?_
    refine z_ldc2 X kj_RX8_43 kl_16842752 dX8_placed_22 ?_
    refine z_ladd X dX8_placed_25 ?_
    cases hf
    exact z_lret X hK dX8_placed_26
  · rw [if_pos hc2] at hf
    refine z_lconst0 X dX8_placed_6 ?_
    refine z_goto X dX8_placed_7 rfl ?_
    cases hf
    exact z_lret X hK dX8_placed_26
set_option maxHeartbeats 4000000 in
set_option maxRecDepth 100000 in
theorem ya_RX2_123 {g : GP} {x : CX} {cc : ByteArray} {nL d pc : Nat} {ls : List (Nat × TV)} {rest : List TV} (X : zX g x RX2 cc nL (d + 1)) (hd : 0 ≤ d) (hdc : decode cc pc = .ok (.invokevirtual 123, 3)) (l0 l1 l2 : Int) (h : Hp) (r : Int) (hr : Al_placed l0 l1 l2 h = some r) (hw : z_wd rest ≤ 8) (k : ZV g x nL h (pc + 3) ls ((1, r) :: rest)) : ZV g x nL h pc ls ((1, l2) :: (0, l1) :: (2, l0) :: rest) := by
  unfold Al_placed at hr
  by_cases h2 : kK l0 = 2
  · rw [if_pos h2] at hr
    exact y_A1 X ca_RX2_123_2 hdc h2 (c_Co_placed d (Nat.le_trans (by decide) hd) l0 l1 l2 h r hr) (as := [(0, l1), (1, l2)]) rfl rfl hw z00 k
  rw [if_neg h2] at hr
  by_cases h7 : kK l0 = 7
  · rw [if_pos h7] at hr
    exact y_A1 X ca_RX2_123_7 hdc h7 (c_Su_placed d (Nat.le_trans (by decide) hd) l0 l1 l2 h r hr) (as := [(0, l1), (1, l2)]) rfl rfl hw z00 k
  rw [if_neg h7] at hr
  by_cases h5 : kK l0 = 5
  · rw [if_pos h5] at hr
    exact y_A1 X ca_RX2_123_5 hdc h5 (c_Ms_placed d (Nat.le_trans (by decide) hd) l0 l1 l2 h r hr) (as := [(0, l1), (1, l2)]) rfl rfl hw z00 k
  rw [if_neg h5] at hr
  cases hr
set_option maxHeartbeats 4000000 in
set_option maxRecDepth 100000 in
theorem ya_RX2_127 {g : GP} {x : CX} {cc : ByteArray} {nL d pc : Nat} {ls : List (Nat × TV)} {rest : List TV} (X : zX g x RX2 cc nL (d + 1)) (hd : 1 ≤ d) (hdc : decode cc pc = .ok (.invokevirtual 127, 3)) (l0 l1 l3 : Int) (h : Hp) (r : Int) (hr : Al_either l0 l1 l3 h = some r) (hw : z_wd rest ≤ 8) (k : ZV g x nL h (pc + 3) ls ((1, r) :: rest)) : ZV g x nL h pc ls ((1, l3) :: (1, l1) :: (2, l0) :: rest) := by
  unfold Al_either at hr
  by_cases h2 : kK l0 = 2
  · rw [if_pos h2] at hr
    exact y_A1 X ca_RX2_127_2 hdc h2 (c_Co_either d (Nat.le_trans (by decide) hd) l0 l1 l3 h r hr) (as := [(1, l1), (1, l3)]) rfl rfl hw z00 k
  rw [if_neg h2] at hr
  by_cases h7 : kK l0 = 7
  · rw [if_pos h7] at hr
    exact y_A1 X ca_RX2_127_7 hdc h7 (c_Su_either d (Nat.le_trans (by decide) hd) l0 l1 l3 h r hr) (as := [(1, l1), (1, l3)]) rfl rfl hw z00 k
  rw [if_neg h7] at hr
  by_cases h5 : kK l0 = 5
  · rw [if_pos h5] at hr
    exact y_A1 X ca_RX2_127_5 hdc h5 (c_Ms_either d (Nat.le_trans (by decide) hd) l0 l1 l3 h r hr) (as := [(1, l1), (1, l3)]) rfl rfl hw z00 k
  rw [if_neg h5] at hr
  cases hr
set_option maxHeartbeats 4000000 in
set_option maxRecDepth 100000 in
theorem c_Ch_addGuest {l : Launch} {g : GP} (d : Nat) (hd : 2 ≤ d) (l0 l1 l2 l3 : Int) (h : Hp) (y : Hp) (hf : Ch_addGuest l0 l1 l2 l3 h = some y) : zM l yX2_addGuest cX2_addGuest 8 none d 0 0 g 157 h [(2, l0), (0, l1), (0, l2), (1, l3)] 157 y none := by
  obtain ⟨d, rfl⟩ : ∃ k, d = k + 1 := ⟨d - 1, by omega⟩
  replace hd : 1 ≤ d := Nat.le_of_succ_le_succ hd
  refine z_start (by decide) (Nat.le_of_ble_eq_true rfl) (fun x X hK _ _ _ hl => ?_)
  show ZV g x 8 h 0 [(0, (2, l0)), (1, (0, l1)), (2, (0, l2)), (3, (1, l3))] []
  unfold Ch_addGuest at hf
  refine z_aload_n X dX2_addGuest_0 0 rfl ?_
  refine z_aload_n X dX2_addGuest_1 0 rfl ?_
  obtain ⟨g1, hf⟩ := gif hf
  refine y_get X fl_RX2_12 dX2_addGuest_2 g1 ?_
  obtain ⟨g2, hf⟩ := gif hf
  refine y_get X fl_RX2_102 dX2_addGuest_5 g2 ?_
  refine z_iload_n X dX2_addGuest_8 1 rfl ?_
  obtain ⟨g3, hf⟩ := gif hf
  refine y_iald X dX2_addGuest_9 g3 ?_
  obtain ⟨r10, hr10, hf⟩ := obE hf
  refine y_V1 X cv_RX2_149 dX2_addGuest_10 g1 (c_Ch_guestRow d (Nat.le_trans (by decide) hd) l0 (h (h (h l0 0) 9) l1) h r10 hr10) (as := [(0, h (h (h l0 0) 9) l1)]) rfl rfl (Nat.le_of_ble_eq_true rfl) z00 ?_
  refine z_istore X dX2_addGuest_13 (by decide) (ls' := [(5, (0, r10)), (0, (2, l0)), (1, (0, l1)), (2, (0, l2)), (3, (1, l3))]) rfl ?_
  refine z_iload X dX2_addGuest_15 0 rfl ?_
  refine z_iconst X dX2_addGuest_17 kc_m1 ?_
  refine z_icmp_eq X dX2_addGuest_18 rfl (fun hc18 => ?_) (fun hc18 => ?_)
  · have hf := ift hc18 hf
    cases hf
    exact z_vret X hK dX2_addGuest_67
  · have hf := iff' hc18 hf
    refine z_aload_n X dX2_addGuest_21 1 rfl ?_
    refine y_get X fl_RX2_57 dX2_addGuest_22 g1 ?_
    refine z_aload_n X dX2_addGuest_25 1 rfl ?_
    refine y_get X fl_RX2_12 dX2_addGuest_26 g1 ?_
    refine y_get X fl_RX2_67 dX2_addGuest_29 g2 ?_
    refine z_iload_n X dX2_addGuest_32 2 rfl ?_
    obtain ⟨g4, hf⟩ := gif hf
    refine y_iald X dX2_addGuest_33 g4 ?_
    refine z_lload_n X dX2_addGuest_34 4 rfl ?_
    obtain ⟨r35, hr35, hf⟩ := obE hf
    refine ya_RX2_123 X (Nat.le_trans (by decide) hd) dX2_addGuest_35 (h l0 3) (h (h (h l0 0) 7) l1) l3 h r35 hr35 (Nat.le_of_ble_eq_true rfl) ?_
    refine z_lstore X dX2_addGuest_38 (by decide) (ls' := [(6, (1, r35)), (5, (0, r10)), (0, (2, l0)), (1, (0, l1)), (2, (0, l2)), (3, (1, l3))]) rfl ?_
    refine z_aload_n X dX2_addGuest_40 2 rfl ?_
    refine y_get X fl_RX2_23 dX2_addGuest_41 g1 ?_
    refine z_iload X dX2_addGuest_44 1 rfl ?_
    refine z_iload_n X dX2_addGuest_46 4 rfl ?_
    refine z_iadd X dX2_addGuest_47 ?_
    refine z_aload_n X dX2_addGuest_48 2 rfl ?_
    refine y_get X fl_RX2_57 dX2_addGuest_49 g1 ?_
    refine z_aload_n X dX2_addGuest_52 2 rfl ?_
    refine y_get X fl_RX2_23 dX2_addGuest_53 g1 ?_
    refine z_iload X dX2_addGuest_56 1 rfl ?_
    refine z_iload_n X dX2_addGuest_58 4 rfl ?_
    refine z_iadd X dX2_addGuest_59 ?_
    obtain ⟨g5, hf⟩ := gif hf
    refine y_lald X dX2_addGuest_60 g5 ?_
    refine z_lload X dX2_addGuest_61 0 rfl ?_
    obtain ⟨r63, hr63, hf⟩ := obE hf
    refine ya_RX2_127 X (Nat.le_trans (by decide) hd) dX2_addGuest_63 (h l0 3) (h (h l0 5) (w32 (r10 + l2))) r35 h r63 hr63 (Nat.le_of_ble_eq_true rfl) ?_
    refine y_last X dX2_addGuest_66 g5 ?_
    let h_1 : Hp := hput h (h l0 5) (w32 (r10 + l2)) r63
    cases hf
    exact z_vret X hK dX2_addGuest_67
set_option maxHeartbeats 4000000 in
set_option maxRecDepth 100000 in
theorem c_Co_both {l : Launch} {g : GP} (d : Nat) (hd : 0 ≤ d) (l0 l1 l3 : Int) (h : Hp) (y : Int) (hf : Co_both l0 l1 l3 = some y) : zM l yX3_both cX3_both 5 (some .long) d 0 0 g 157 h [(2, l0), (1, l1), (1, l3)] 157 h (some (1, y)) := by
  refine z_start (by decide) (Nat.le_of_ble_eq_true rfl) (fun x X hK _ _ _ hl => ?_)
  show ZV g x 5 h 0 [(0, (2, l0)), (1, (1, l1)), (3, (1, l3))] []
  unfold Co_both at hf
  refine z_lload_n X dX3_both_0 1 rfl ?_
  refine z_lconst0 X dX3_both_1 ?_
  refine z_l_le X dX3_both_2 dX3_both_3 rfl (fun hc2 => ?_) (fun hc2 => ?_)
  · have hf := ift hc2 hf
    refine z_lconst0 X dX3_both_12 ?_
    cases hf
    exact z_lret X hK dX3_both_13
  · have hf := iff' hc2 hf
    refine z_lload_n X dX3_both_6 2 rfl ?_
    refine z_lconst0 X dX3_both_7 ?_
    refine z_l_gt X dX3_both_8 dX3_both_9 rfl (fun hc8 => ?_) (fun hc8 => ?_)
    · have hf := ift hc8 hf
      refine z_lload_n X dX3_both_14 1 rfl ?_
      refine z_ldc2 X kj_RX3_15 kl_1000000000000001 dX3_both_15 ?_
      refine z_lload_n X dX3_both_18 2 rfl ?_
      obtain ⟨g1, hf⟩ := gif hf
      refine z_ldiv X dX3_both_19 g1 ?_
      refine z_l_le X dX3_both_20 dX3_both_21 rfl (fun hc20 => ?_) (fun hc20 => ?_)
      · rw [if_pos hc20] at hf
        refine z_lload_n X dX3_both_30 1 rfl ?_
        refine z_lload_n X dX3_both_31 2 rfl ?_
        refine z_lmul X dX3_both_32 ?_
        cases hf
        exact z_lret X hK dX3_both_33
      · rw [if_neg hc20] at hf
        refine z_ldc2 X kj_RX3_15 kl_1000000000000001 dX3_both_24 ?_
        refine z_goto X dX3_both_27 rfl ?_
        cases hf
        exact z_lret X hK dX3_both_33
    · have hf := iff' hc8 hf
      refine z_lconst0 X dX3_both_12 ?_
      cases hf
      exact z_lret X hK dX3_both_13
set_option maxHeartbeats 4000000 in
set_option maxRecDepth 100000 in
theorem c_Ms_both {l : Launch} {g : GP} (d : Nat) (hd : 0 ≤ d) (l0 l1 l3 : Int) (h : Hp) (y : Int) (hf : Ms_both l0 l1 l3 = some y) : zM l yX6_both cX6_both 5 (some .long) d 0 0 g 157 h [(2, l0), (1, l1), (1, l3)] 157 h (some (1, y)) := by
  refine z_start (by decide) (Nat.le_of_ble_eq_true rfl) (fun x X hK _ _ _ hl => ?_)
  show ZV g x 5 h 0 [(0, (2, l0)), (1, (1, l1)), (3, (1, l3))] []
  unfold Ms_both at hf
  refine z_lload_n X dX6_both_0 1 rfl ?_
  refine z_lload_n X dX6_both_1 2 rfl ?_
  refine z_land X dX6_both_2 ?_
  cases hf
  exact z_lret X hK dX6_both_3
set_option maxHeartbeats 4000000 in
set_option maxRecDepth 100000 in
theorem c_Su_both {l : Launch} {g : GP} (d : Nat) (hd : 1 ≤ d) (l0 l1 l3 : Int) (h : Hp) (y : Int) (hf : Su_both l0 l1 l3 = some y) : zM l yX8_both cX8_both 5 (some .long) d 0 0 g 157 h [(2, l0), (1, l1), (1, l3)] 157 h (some (1, y)) := by
  obtain ⟨d, rfl⟩ : ∃ k, d = k + 1 := ⟨d - 1, by omega⟩
  replace hd : 0 ≤ d := Nat.le_of_succ_le_succ hd
  refine z_start (by decide) (Nat.le_of_ble_eq_true rfl) (fun x X hK _ _ _ hl => ?_)
  show ZV g x 5 h 0 [(0, (2, l0)), (1, (1, l1)), (3, (1, l3))] []
  unfold Su_both at hf
  refine z_lload_n X dX8_both_0 1 rfl ?_
  refine z_lconst0 X dX8_both_1 ?_
  refine z_l_eq X dX8_both_2 dX8_both_3 rfl (fun hc2 => ?_) (fun hc2 => ?_)
  · have hf := ift hc2 hf
    refine z_lconst0 X dX8_both_12 ?_
    cases hf
    exact z_lret X hK dX8_both_13
  · have hf := iff' hc2 hf
    refine z_lload_n X dX8_both_6 2 rfl ?_
    refine z_lconst0 X dX8_both_7 ?_
    refine z_l_ne X dX8_both_8 dX8_both_9 rfl (fun hc8 => ?_) (fun hc8 => ?_)
    · have hf := iff' hc8 hf
      refine z_lload_n X dX8_both_14 1 rfl ?_
      obtain ⟨r15, hr15, hf⟩ := obE hf
      refine y_S1 X cs_RX8_17 dX8_both_15 (c_Su_some d (Nat.zero_le _) l1 h r15 hr15) (as := [(1, l1)]) rfl rfl (Nat.le_of_ble_eq_true rfl) z00 ?_
      refine z_lload_n X dX8_both_18 2 rfl ?_
      obtain ⟨r19, hr19, hf⟩ := obE hf
      refine y_S1 X cs_RX8_17 dX8_both_19 (c_Su_some d (Nat.zero_le _) l3 h r19 hr19) (as := [(1, l3)]) rfl rfl (Nat.le_of_ble_eq_true rfl) z00 ?_
      refine z_ior X dX8_both_22 ?_
      refine z_lload_n X dX8_both_23 1 rfl ?_
      obtain ⟨r24, hr24, hf⟩ := obE hf
      refine y_S1 X cs_RX8_21 dX8_both_24 (c_Su_every d (Nat.zero_le _) l1 h r24 hr24) (as := [(1, l1)]) rfl rfl (Nat.le_of_ble_eq_true rfl) z00 ?_
      refine z_lload_n X dX8_both_27 2 rfl ?_
      obtain ⟨r28, hr28, hf⟩ := obE hf
      refine y_S1 X cs_RX8_21 dX8_both_28 (c_Su_every d (Nat.zero_le _) l3 h r28 hr28) (as := [(1, l3)]) rfl rfl (Nat.le_of_ble_eq_true rfl) z00 ?_
      refine z_ior X dX8_both_31 ?_
      refine z_lload_n X dX8_both_32 1 rfl ?_
      obtain ⟨r33, hr33, hf⟩ := obE hf
      refine y_S1 X cs_RX8_24 dX8_both_33 (c_Su_fewest d (Nat.zero_le _) l1 h r33 hr33) (as := [(1, l1)]) rfl rfl (Nat.le_of_ble_eq_true rfl) z00 ?_
      refine z_lload_n X dX8_both_36 2 rfl ?_
      obtain ⟨r37, hr37, hf⟩ := obE hf
      refine y_S1 X cs_RX8_24 dX8_both_37 (c_Su_fewest d (Nat.zero_le _) l3 h r37 hr37) (as := [(1, l3)]) rfl rfl (Nat.le_of_ble_eq_true rfl) z00 ?_
      refine z_iadd X dX8_both_40 ?_
      refine z_lload_n X dX8_both_41 1 rfl ?_
      obtain ⟨r42, hr42, hf⟩ := obE hf
      refine y_S1 X cs_RX8_27 dX8_both_42 (c_Su_most d (Nat.zero_le _) l1 h r42 hr42) (as := [(1, l1)]) rfl rfl (Nat.le_of_ble_eq_true rfl) z00 ?_
      refine z_lload_n X dX8_both_45 2 rfl ?_
      obtain ⟨r46, hr46, hf⟩ := obE hf
      refine y_S1 X cs_RX8_27 dX8_both_46 (c_Su_most d (Nat.zero_le _) l3 h r46 hr46) (as := [(1, l3)]) rfl rfl (Nat.le_of_ble_eq_true rfl) z00 ?_
      refine z_iadd X dX8_both_49 ?_
      obtain ⟨r50, hr50, hf⟩ := obE hf
      refine y_S1 X cs_RX8_30 dX8_both_50 (c_Su_packed d (Nat.zero_le _) (i_or r15 r19) (i_or r24 r28) (w32 (r33 + r37)) (w32 (r42 + r46)) h r50 hr50) (as := [(0, i_or r15 r19), (0, i_or r24 r28), (0, w32 (r33 + r37)), (0, w32 (r42 + r46))]) rfl rfl (Nat.le_of_ble_eq_true rfl) z00 ?_
      cases hf
      exact z_lret X hK dX8_both_53
    · have hf := ift hc8 hf
      refine z_lconst0 X dX8_both_12 ?_
      cases hf
      exact z_lret X hK dX8_both_13
set_option maxHeartbeats 4000000 in
set_option maxRecDepth 100000 in
theorem ya_RX2_167 {g : GP} {x : CX} {cc : ByteArray} {nL d pc : Nat} {ls : List (Nat × TV)} {rest : List TV} (X : zX g x RX2 cc nL (d + 1)) (hd : 1 ≤ d) (hdc : decode cc pc = .ok (.invokevirtual 167, 3)) (l0 l1 l3 : Int) (h : Hp) (r : Int) (hr : Al_both l0 l1 l3 h = some r) (hw : z_wd rest ≤ 8) (k : ZV g x nL h (pc + 3) ls ((1, r) :: rest)) : ZV g x nL h pc ls ((1, l3) :: (1, l1) :: (2, l0) :: rest) := by
  unfold Al_both at hr
  by_cases h2 : kK l0 = 2
  · rw [if_pos h2] at hr
    exact y_A1 X ca_RX2_167_2 hdc h2 (c_Co_both d (Nat.le_trans (by decide) hd) l0 l1 l3 h r hr) (as := [(1, l1), (1, l3)]) rfl rfl hw z00 k
  rw [if_neg h2] at hr
  by_cases h7 : kK l0 = 7
  · rw [if_pos h7] at hr
    exact y_A1 X ca_RX2_167_7 hdc h7 (c_Su_both d (Nat.le_trans (by decide) hd) l0 l1 l3 h r hr) (as := [(1, l1), (1, l3)]) rfl rfl hw z00 k
  rw [if_neg h7] at hr
  by_cases h5 : kK l0 = 5
  · rw [if_pos h5] at hr
    exact y_A1 X ca_RX2_167_5 hdc h5 (c_Ms_both d (Nat.le_trans (by decide) hd) l0 l1 l3 h r hr) (as := [(1, l1), (1, l3)]) rfl rfl hw z00 k
  rw [if_neg h5] at hr
  cases hr
set_option maxHeartbeats 4000000 in
set_option maxRecDepth 100000 in
theorem z_Ch_waysAbove_j226 {g : GP} {x : CX} {d : Nat} (X : zX g x RX2 cX2_waysAbove 17 (d + 1)) (hd : 1 ≤ d) (l0 l2 l3 l4 l5 l6 l7 l9 l10 l11 l12 : Int) (h : Hp) (y : (Int × Int) ⊕ (Int)) (hf : Ch_waysAbove_j226 l0 l2 l3 l4 l5 l6 l7 l9 l10 l11 l12 h = some y) (E : Int → Prop) (hx0 : ∀ e : Int, E (e) → ZV g x 17 h 232 [(0, (2, l0)), (2, (0, l2)), (3, (0, l3)), (4, (0, l4)), (5, (0, l5)), (6, (0, l6)), (7, (1, e)), (9, (0, l9)), (10, (0, l10)), (11, (0, l11))] []) (hk : z_sum (fun q : Int × Int => ZV g x 17 h 120 [(0, (2, l0)), (2, (0, l2)), (3, (0, l3)), (4, (0, l4)), (5, (0, l5)), (6, (0, l6)), (7, (1, q.1)), (9, (0, l9)), (10, (0, l10)), (11, (0, l11)), (12, (0, q.2))] []) E y) : ZV g x 17 h 226 [(0, (2, l0)), (2, (0, l2)), (3, (0, l3)), (4, (0, l4)), (5, (0, l5)), (6, (0, l6)), (7, (1, l7)), (9, (0, l9)), (10, (0, l10)), (11, (0, l11)), (12, (0, l12))] [] := by
  unfold Ch_waysAbove_j226 at hf
  refine z_iinc X dX2_waysAbove_226 10 rfl (by decide) (ls' := [(12, (0, w32 (l12 + 1))), (0, (2, l0)), (2, (0, l2)), (3, (0, l3)), (4, (0, l4)), (5, (0, l5)), (6, (0, l6)), (7, (1, l7)), (9, (0, l9)), (10, (0, l10)), (11, (0, l11))]) rfl ?_
  refine z_goto X dX2_waysAbove_229 rfl ?_
  cases hf
  exact z_weak [1, 2, 3, 4, 5, 6, 7, 8, 9, 10, 0] rfl hk
set_option maxHeartbeats 4000000 in
set_option maxRecDepth 100000 in
theorem z_Ch_waysAbove_j224 {g : GP} {x : CX} {d : Nat} (X : zX g x RX2 cX2_waysAbove 17 (d + 1)) (hd : 1 ≤ d) (l0 l2 l3 l4 l5 l6 l9 l10 l11 l12 s0 : Int) (h : Hp) (y : (Int × Int) ⊕ (Int)) (hf : Ch_waysAbove_j224 l0 l2 l3 l4 l5 l6 l9 l10 l11 l12 s0 h = some y) (E : Int → Prop) (hx0 : ∀ e : Int, E (e) → ZV g x 17 h 232 [(0, (2, l0)), (2, (0, l2)), (3, (0, l3)), (4, (0, l4)), (5, (0, l5)), (6, (0, l6)), (7, (1, e)), (9, (0, l9)), (10, (0, l10)), (11, (0, l11))] []) (hk : z_sum (fun q : Int × Int => ZV g x 17 h 120 [(0, (2, l0)), (2, (0, l2)), (3, (0, l3)), (4, (0, l4)), (5, (0, l5)), (6, (0, l6)), (7, (1, q.1)), (9, (0, l9)), (10, (0, l10)), (11, (0, l11)), (12, (0, q.2))] []) E y) : ZV g x 17 h 224 [(0, (2, l0)), (2, (0, l2)), (3, (0, l3)), (4, (0, l4)), (5, (0, l5)), (6, (0, l6)), (9, (0, l9)), (10, (0, l10)), (11, (0, l11)), (12, (0, l12))] [(1, s0)] := by
  unfold Ch_waysAbove_j224 at hf
  refine z_lstore X dX2_waysAbove_224 (by decide) (ls' := [(7, (1, s0)), (0, (2, l0)), (2, (0, l2)), (3, (0, l3)), (4, (0, l4)), (5, (0, l5)), (6, (0, l6)), (9, (0, l9)), (10, (0, l10)), (11, (0, l11)), (12, (0, l12))]) rfl ?_
  exact z_weak [1, 2, 3, 4, 5, 6, 0, 7, 8, 9, 10] rfl (z_Ch_waysAbove_j226 X hd l0 l2 l3 l4 l5 l6 s0 l9 l10 l11 l12 h _ hf E hx0 hk)
set_option maxHeartbeats 4000000 in
set_option maxRecDepth 100000 in
theorem z_Ch_waysAbove_j162 {g : GP} {x : CX} {d : Nat} (X : zX g x RX2 cX2_waysAbove 17 (d + 1)) (hd : 1 ≤ d) (l0 l2 l3 l4 l5 l6 l7 l9 l10 l11 l12 s0 s1 s2 : Int) (h : Hp) (y : (Int × Int) ⊕ (Int)) (hf : Ch_waysAbove_j162 l0 l2 l3 l4 l5 l6 l7 l9 l10 l11 l12 s0 s1 s2 h = some y) (E : Int → Prop) (hx0 : ∀ e : Int, E (e) → ZV g x 17 h 232 [(0, (2, l0)), (2, (0, l2)), (3, (0, l3)), (4, (0, l4)), (5, (0, l5)), (6, (0, l6)), (7, (1, e)), (9, (0, l9)), (10, (0, l10)), (11, (0, l11))] []) (hk : z_sum (fun q : Int × Int => ZV g x 17 h 120 [(0, (2, l0)), (2, (0, l2)), (3, (0, l3)), (4, (0, l4)), (5, (0, l5)), (6, (0, l6)), (7, (1, q.1)), (9, (0, l9)), (10, (0, l10)), (11, (0, l11)), (12, (0, q.2))] []) E y) : ZV g x 17 h 162 [(0, (2, l0)), (2, (0, l2)), (3, (0, l3)), (4, (0, l4)), (5, (0, l5)), (6, (0, l6)), (7, (1, l7)), (9, (0, l9)), (10, (0, l10)), (11, (0, l11)), (12, (0, l12))] [(0, s0), (0, s1), (2, s2)] := by
  unfold Ch_waysAbove_j162 at hf
  refine z_iadd X dX2_waysAbove_162 ?_
  obtain ⟨g13, hf⟩ := gif hf
  refine y_lald X dX2_waysAbove_163 g13 ?_
  refine z_lstore X dX2_waysAbove_164 (by decide) (ls' := [(13, (1, h s2 (w32 (s1 + s0)))), (0, (2, l0)), (2, (0, l2)), (3, (0, l3)), (4, (0, l4)), (5, (0, l5)), (6, (0, l6)), (7, (1, l7)), (9, (0, l9)), (10, (0, l10)), (11, (0, l11)), (12, (0, l12))]) rfl ?_
  refine z_lload X dX2_waysAbove_166 0 rfl ?_
  refine z_lconst0 X dX2_waysAbove_168 ?_
  refine z_l_eq X dX2_waysAbove_169 dX2_waysAbove_170 rfl (fun hc169 => ?_) (fun hc169 => ?_)
  · have hf := ift hc169 hf
    exact z_weak [1, 2, 3, 4, 5, 6, 7, 8, 9, 10, 11] rfl (z_Ch_waysAbove_j226 X hd l0 l2 l3 l4 l5 l6 l7 l9 l10 l11 l12 h _ hf E hx0 hk)
  · have hf := iff' hc169 hf
    refine z_aload_n X dX2_waysAbove_173 1 rfl ?_
    obtain ⟨g14, hf⟩ := gif hf
    refine y_get X fl_RX2_23 dX2_waysAbove_174 g14 ?_
    refine z_iload X dX2_waysAbove_177 8 rfl ?_
    refine z_iload_n X dX2_waysAbove_179 2 rfl ?_
    refine z_iload_n X dX2_waysAbove_180 3 rfl ?_
    refine z_iload X dX2_waysAbove_181 10 rfl ?_
    refine z_iload X dX2_waysAbove_183 11 rfl ?_
    obtain ⟨r185, hr185, hf⟩ := obE hf
    refine y_S1 X cs_RX2_37 dX2_waysAbove_185 (c_Ch_cell d (Nat.zero_le _) l2 l3 l11 l12 h r185 hr185) (as := [(0, l2), (0, l3), (0, l11), (0, l12)]) rfl rfl (Nat.le_of_ble_eq_true rfl) z00 ?_
    refine z_iadd X dX2_waysAbove_188 ?_
    obtain ⟨g15, hf⟩ := gif hf
    refine y_lald X dX2_waysAbove_189 g15 ?_
    refine z_lstore X dX2_waysAbove_190 (by decide) (ls' := [(15, (1, h (h l0 5) (w32 (l9 + r185)))), (13, (1, h s2 (w32 (s1 + s0)))), (0, (2, l0)), (2, (0, l2)), (3, (0, l3)), (4, (0, l4)), (5, (0, l5)), (6, (0, l6)), (7, (1, l7)), (9, (0, l9)), (10, (0, l10)), (11, (0, l11)), (12, (0, l12))]) rfl ?_
    refine z_lload X dX2_waysAbove_192 0 rfl ?_
    refine z_lconst0 X dX2_waysAbove_194 ?_
    refine z_l_ne X dX2_waysAbove_195 dX2_waysAbove_196 rfl (fun hc195 => ?_) (fun hc195 => ?_)
    · have hf := iff' hc195 hf
      refine z_aload_n X dX2_waysAbove_204 2 rfl ?_
      refine y_get X fl_RX2_57 dX2_waysAbove_205 g14 ?_
      refine z_lload X dX2_waysAbove_208 8 rfl ?_
      refine z_aload_n X dX2_waysAbove_210 2 rfl ?_
      refine y_get X fl_RX2_57 dX2_waysAbove_211 g14 ?_
      refine z_lload X dX2_waysAbove_214 0 rfl ?_
      refine z_lload X dX2_waysAbove_216 1 rfl ?_
      obtain ⟨r218, hr218, hf⟩ := obE hf
      refine ya_RX2_167 X (Nat.le_trans (by decide) hd) dX2_waysAbove_218 (h l0 3) (h (h l0 5) (w32 (l9 + r185))) (h s2 (w32 (s1 + s0))) h r218 hr218 (Nat.le_of_ble_eq_true rfl) ?_
      obtain ⟨r221, hr221, hf⟩ := obE hf
      refine ya_RX2_127 X (Nat.le_trans (by decide) hd) dX2_waysAbove_221 (h l0 3) l7 r218 h r221 hr221 (Nat.le_of_ble_eq_true rfl) ?_
      exact z_weak [2, 3, 4, 5, 6, 7, 9, 10, 11, 12] rfl (z_Ch_waysAbove_j224 X hd l0 l2 l3 l4 l5 l6 l9 l10 l11 l12 r221 h _ hf E hx0 hk)
    · have hf := ift hc195 hf
      refine z_lload X dX2_waysAbove_199 8 rfl ?_
      refine z_goto X dX2_waysAbove_201 rfl ?_
      exact z_weak [2, 3, 4, 5, 6, 7, 9, 10, 11, 12] rfl (z_Ch_waysAbove_j224 X hd l0 l2 l3 l4 l5 l6 l9 l10 l11 l12 l7 h _ hf E hx0 hk)
set_option maxHeartbeats 4000000 in
set_option maxRecDepth 100000 in
theorem z_Ch_waysAbove_L120 {g : GP} {x : CX} {d : Nat} (X : zX g x RX2 cX2_waysAbove 17 (d + 1)) (hd : 1 ≤ d) (l0 l2 l3 l4 l5 l6 l9 l10 l11 : Int) (h : Hp) (E : Int → Prop) (hx0 : ∀ e : Int, E (e) → ZV g x 17 h 232 [(0, (2, l0)), (2, (0, l2)), (3, (0, l3)), (4, (0, l4)), (5, (0, l5)), (6, (0, l6)), (7, (1, e)), (9, (0, l9)), (10, (0, l10)), (11, (0, l11))] []) (l7 l12 : Int) (y : (Int × Int) ⊕ (Int)) (hf : Ch_waysAbove_L120 l0 l2 l3 l4 l5 l6 l9 l10 l11 h l7 l12 = some y) (hk : z_sum (fun q : Int × Int => ZV g x 17 h 120 [(0, (2, l0)), (2, (0, l2)), (3, (0, l3)), (4, (0, l4)), (5, (0, l5)), (6, (0, l6)), (7, (1, q.1)), (9, (0, l9)), (10, (0, l10)), (11, (0, l11)), (12, (0, q.2))] []) E y) : ZV g x 17 h 120 [(0, (2, l0)), (2, (0, l2)), (3, (0, l3)), (4, (0, l4)), (5, (0, l5)), (6, (0, l6)), (7, (1, l7)), (9, (0, l9)), (10, (0, l10)), (11, (0, l11)), (12, (0, l12))] [] := by
  unfold Ch_waysAbove_L120 at hf
  refine z_iload X dX2_waysAbove_120 10 rfl ?_
  refine z_iload_n X dX2_waysAbove_122 2 rfl ?_
  refine z_icmp_gt X dX2_waysAbove_123 rfl (fun hc123 => ?_) (fun hc123 => ?_)
  · have hf := ift hc123 hf
    cases hf
    exact z_weak [0, 1, 2, 3, 4, 5, 6, 7, 8, 9] rfl (hx0 _ hk)
  · have hf := iff' hc123 hf
    refine z_aload_n X dX2_waysAbove_126 0 rfl ?_
    obtain ⟨g12, hf⟩ := gif hf
    refine y_get X fl_RX2_19 dX2_waysAbove_127 g12 ?_
    refine z_iload X dX2_waysAbove_130 5 rfl ?_
    refine z_iload X dX2_waysAbove_132 8 rfl ?_
    refine z_if_eq X dX2_waysAbove_134 rfl (fun hc134 => ?_) (fun hc134 => ?_)
    · have hf := ift hc134 hf
      refine z_iload X dX2_waysAbove_151 9 rfl ?_
      refine z_iload X dX2_waysAbove_153 10 rfl ?_
      refine z_iload X dX2_waysAbove_155 10 rfl ?_
      refine z_iload X dX2_waysAbove_157 10 rfl ?_
      obtain ⟨r159, hr159, hf⟩ := obE hf
      refine y_S1 X cs_RX2_37 dX2_waysAbove_159 (c_Ch_cell d (Nat.zero_le _) l11 l12 l12 l12 h r159 hr159) (as := [(0, l11), (0, l12), (0, l12), (0, l12)]) rfl rfl (Nat.le_of_ble_eq_true rfl) z00 ?_
      exact (z_Ch_waysAbove_j162 X hd l0 l2 l3 l4 l5 l6 l7 l9 l10 l11 l12 r159 l6 (h l0 4) h _ hf E hx0 hk)
    · have hf := iff' hc134 hf
      refine z_iload X dX2_waysAbove_137 9 rfl ?_
      refine z_iload X dX2_waysAbove_139 10 rfl ?_
      refine z_iload X dX2_waysAbove_141 3 rfl ?_
      refine z_iload X dX2_waysAbove_143 4 rfl ?_
      obtain ⟨r145, hr145, hf⟩ := obE hf
      refine y_S1 X cs_RX2_37 dX2_waysAbove_145 (c_Ch_cell d (Nat.zero_le _) l11 l12 l4 l5 h r145 hr145) (as := [(0, l11), (0, l12), (0, l4), (0, l5)]) rfl rfl (Nat.le_of_ble_eq_true rfl) z00 ?_
      refine z_goto X dX2_waysAbove_148 rfl ?_
      exact (z_Ch_waysAbove_j162 X hd l0 l2 l3 l4 l5 l6 l7 l9 l10 l11 l12 r145 l6 (h l0 4) h _ hf E hx0 hk)
set_option maxHeartbeats 4000000 in
set_option maxRecDepth 100000 in
theorem z_Ch_waysAbove_j118 {g : GP} {x : CX} {d : Nat} (X : zX g x RX2 cX2_waysAbove 17 (d + 1)) (hd : 1 ≤ d) (l0 l2 l3 l4 l5 l6 l7 l9 l10 l11 s0 : Int) (h : Hp) (y : (Int × Int) ⊕ (Int)) (hf : Ch_waysAbove_j118 l0 l2 l3 l4 l5 l6 l7 l9 l10 l11 s0 h = some y) (E : Int → Prop) (hx0 : ∀ e : Int, E (e) → ZV g x 17 h 238 [(7, (1, e))] []) (hk : z_sum (fun q : Int × Int => ZV g x 17 h 99 [(0, (2, l0)), (2, (0, l2)), (3, (0, l3)), (4, (0, l4)), (5, (0, l5)), (6, (0, l6)), (7, (1, q.1)), (9, (0, l9)), (10, (0, l10)), (11, (0, q.2))] []) E y) : ZV g x 17 h 118 [(0, (2, l0)), (2, (0, l2)), (3, (0, l3)), (4, (0, l4)), (5, (0, l5)), (6, (0, l6)), (7, (1, l7)), (9, (0, l9)), (10, (0, l10)), (11, (0, l11))] [(0, s0)] := by
  unfold Ch_waysAbove_j118 at hf
  refine z_istore X dX2_waysAbove_118 (by decide) (ls' := [(12, (0, s0)), (0, (2, l0)), (2, (0, l2)), (3, (0, l3)), (4, (0, l4)), (5, (0, l5)), (6, (0, l6)), (7, (1, l7)), (9, (0, l9)), (10, (0, l10)), (11, (0, l11))]) rfl ?_
  obtain ⟨q120, hq120, hf⟩ := obE hf
  have hx120_0 : ∀ e232 : Int, (e232 : Int) = q120 → ZV g x 17 h 232 [(0, (2, l0)), (2, (0, l2)), (3, (0, l3)), (4, (0, l4)), (5, (0, l5)), (6, (0, l6)), (7, (1, e232)), (9, (0, l9)), (10, (0, l10)), (11, (0, l11))] [] := by
    intro e232 hq
    subst hq
    refine z_iinc X dX2_waysAbove_232 9 rfl (by decide) (ls' := [(11, (0, w32 (l11 + 1))), (0, (2, l0)), (2, (0, l2)), (3, (0, l3)), (4, (0, l4)), (5, (0, l5)), (6, (0, l6)), (7, (1, e232)), (9, (0, l9)), (10, (0, l10))]) rfl ?_
    refine z_goto X dX2_waysAbove_235 rfl ?_
    cases hf
    exact z_weak [1, 2, 3, 4, 5, 6, 7, 8, 9, 0] rfl hk
  exact z_weak [1, 2, 3, 4, 5, 6, 7, 8, 9, 10, 0] rfl (z_loop (Z := (fun q : Int × Int => ZV g x 17 h 120 [(0, (2, l0)), (2, (0, l2)), (3, (0, l3)), (4, (0, l4)), (5, (0, l5)), (6, (0, l6)), (7, (1, q.1)), (9, (0, l9)), (10, (0, l10)), (11, (0, l11)), (12, (0, q.2))] [])) (E := fun q => q = q120) (fun q y hb hk => z_Ch_waysAbove_L120 X hd l0 l2 l3 l4 l5 l6 l9 l10 l11 h (fun q => q = q120) hx120_0 q.1 q.2 y hb hk) LN (l7, s0) q120 hq120 rfl)
set_option maxHeartbeats 4000000 in
set_option maxRecDepth 100000 in
theorem z_Ch_waysAbove_L99 {g : GP} {x : CX} {d : Nat} (X : zX g x RX2 cX2_waysAbove 17 (d + 1)) (hd : 1 ≤ d) (l0 l2 l3 l4 l5 l6 l9 l10 : Int) (h : Hp) (E : Int → Prop) (hx0 : ∀ e : Int, E (e) → ZV g x 17 h 238 [(7, (1, e))] []) (l7 l11 : Int) (y : (Int × Int) ⊕ (Int)) (hf : Ch_waysAbove_L99 l0 l2 l3 l4 l5 l6 l9 l10 h l7 l11 = some y) (hk : z_sum (fun q : Int × Int => ZV g x 17 h 99 [(0, (2, l0)), (2, (0, l2)), (3, (0, l3)), (4, (0, l4)), (5, (0, l5)), (6, (0, l6)), (7, (1, q.1)), (9, (0, l9)), (10, (0, l10)), (11, (0, q.2))] []) E y) : ZV g x 17 h 99 [(0, (2, l0)), (2, (0, l2)), (3, (0, l3)), (4, (0, l4)), (5, (0, l5)), (6, (0, l6)), (7, (1, l7)), (9, (0, l9)), (10, (0, l10)), (11, (0, l11))] [] := by
  unfold Ch_waysAbove_L99 at hf
  refine z_iload X dX2_waysAbove_99 9 rfl ?_
  refine z_iload X dX2_waysAbove_101 3 rfl ?_
  refine z_icmp_gt X dX2_waysAbove_103 rfl (fun hc103 => ?_) (fun hc103 => ?_)
  · have hf := ift hc103 hf
    cases hf
    exact z_weak [6] rfl (hx0 _ hk)
  · have hf := iff' hc103 hf
    refine z_iload X dX2_waysAbove_106 8 rfl ?_
    refine z_if_eq X dX2_waysAbove_108 rfl (fun hc108 => ?_) (fun hc108 => ?_)
    · rw [if_pos hc108] at hf
      refine z_iload X dX2_waysAbove_116 9 rfl ?_
      exact (z_Ch_waysAbove_j118 X hd l0 l2 l3 l4 l5 l6 l7 l9 l10 l11 l11 h _ hf E hx0 hk)
    · rw [if_neg hc108] at hf
      refine z_iload X dX2_waysAbove_111 4 rfl ?_
      refine z_goto X dX2_waysAbove_113 rfl ?_
      exact (z_Ch_waysAbove_j118 X hd l0 l2 l3 l4 l5 l6 l7 l9 l10 l11 l5 h _ hf E hx0 hk)
set_option maxHeartbeats 4000000 in
set_option maxRecDepth 100000 in
theorem z_Ch_waysAbove_j74 {g : GP} {x : CX} {d : Nat} (X : zX g x RX2 cX2_waysAbove 17 (d + 1)) (hd : 1 ≤ d) (l0 l1 l2 l3 l4 l5 l6 l7 s0 : Int) (h : Hp) (y : Int) (hf : Ch_waysAbove_j74 l0 l1 l2 l3 l4 l5 l6 l7 s0 h = some y) (hK : zE g x (some .long) 0 0 157 h (some (1, y))) : ZV g x 17 h 74 [(0, (2, l0)), (1, (0, l1)), (2, (0, l2)), (3, (0, l3)), (4, (0, l4)), (5, (0, l5)), (6, (0, l6)), (7, (1, l7))] [(0, s0)] := by
  unfold Ch_waysAbove_j74 at hf
  refine z_istore X dX2_waysAbove_74 (by decide) (ls' := [(9, (0, s0)), (0, (2, l0)), (1, (0, l1)), (2, (0, l2)), (3, (0, l3)), (4, (0, l4)), (5, (0, l5)), (6, (0, l6)), (7, (1, l7))]) rfl ?_
  refine z_iload X dX2_waysAbove_76 0 rfl ?_
  refine z_iconst X dX2_waysAbove_78 kc_m1 ?_
  refine z_icmp_ne X dX2_waysAbove_79 rfl (fun hc79 => ?_) (fun hc79 => ?_)
  · have hf := iff' hc79 hf
    refine z_aload_n X dX2_waysAbove_85 1 rfl ?_
    obtain ⟨g9, hf⟩ := gif hf
    refine y_get X fl_RX2_12 dX2_waysAbove_86 g9 ?_
    obtain ⟨g10, hf⟩ := gif hf
    refine y_get X fl_RX2_131 dX2_waysAbove_89 g10 ?_
    refine z_iload_n X dX2_waysAbove_92 2 rfl ?_
    obtain ⟨g11, hf⟩ := gif hf
    refine y_zald X dX2_waysAbove_93 g11 ?_
    refine z_istore X dX2_waysAbove_94 (by decide) (ls' := [(10, (0, h (h (h l0 0) 15) l1)), (9, (0, s0)), (0, (2, l0)), (1, (0, l1)), (2, (0, l2)), (3, (0, l3)), (4, (0, l4)), (5, (0, l5)), (6, (0, l6)), (7, (1, l7))]) rfl ?_
    refine z_iload_n X dX2_waysAbove_96 4 rfl ?_
    refine z_istore X dX2_waysAbove_97 (by decide) (ls' := [(11, (0, l2)), (10, (0, h (h (h l0 0) 15) l1)), (9, (0, s0)), (0, (2, l0)), (1, (0, l1)), (2, (0, l2)), (3, (0, l3)), (4, (0, l4)), (5, (0, l5)), (6, (0, l6)), (7, (1, l7))]) rfl ?_
    obtain ⟨q99, hq99, hf⟩ := obE hf
    have hx99_0 : ∀ e238 : Int, (e238 : Int) = q99 → ZV g x 17 h 238 [(7, (1, e238))] [] := by
      intro e238 hq
      subst hq
      refine z_lload X dX2_waysAbove_238 0 rfl ?_
      cases hf
      exact z_lret X hK dX2_waysAbove_240
    exact z_weak [3, 5, 6, 7, 8, 9, 10, 2, 1, 0] rfl (z_loop (Z := (fun q : Int × Int => ZV g x 17 h 99 [(0, (2, l0)), (2, (0, l2)), (3, (0, l3)), (4, (0, l4)), (5, (0, l5)), (6, (0, l6)), (7, (1, q.1)), (9, (0, s0)), (10, (0, h (h (h l0 0) 15) l1)), (11, (0, q.2))] [])) (E := fun q => q = q99) (fun q y hb hk => z_Ch_waysAbove_L99 X hd l0 l2 l3 l4 l5 l6 s0 (h (h (h l0 0) 15) l1) h (fun q => q = q99) hx99_0 q.1 q.2 y hb hk) LN (l7, l2) q99 hq99 rfl)
  · have hf := ift hc79 hf
    refine z_lload X dX2_waysAbove_82 8 rfl ?_
    cases hf
    exact z_lret X hK dX2_waysAbove_84
set_option maxHeartbeats 4000000 in
set_option maxRecDepth 100000 in
theorem z_Ch_waysAbove_j42 {g : GP} {x : CX} {d : Nat} (X : zX g x RX2 cX2_waysAbove 17 (d + 1)) (hd : 1 ≤ d) (l0 l1 l2 l3 l4 l5 l6 s0 : Int) (h : Hp) (y : Int) (hf : Ch_waysAbove_j42 l0 l1 l2 l3 l4 l5 l6 s0 h = some y) (hK : zE g x (some .long) 0 0 157 h (some (1, y))) : ZV g x 17 h 42 [(0, (2, l0)), (1, (0, l1)), (2, (0, l2)), (3, (0, l3)), (4, (0, l4)), (5, (0, l5)), (6, (0, l6))] [(1, s0)] := by
  unfold Ch_waysAbove_j42 at hf
  refine z_lstore X dX2_waysAbove_42 (by decide) (ls' := [(7, (1, s0)), (0, (2, l0)), (1, (0, l1)), (2, (0, l2)), (3, (0, l3)), (4, (0, l4)), (5, (0, l5)), (6, (0, l6))]) rfl ?_
  refine z_aload_n X dX2_waysAbove_44 1 rfl ?_
  obtain ⟨g5, hf⟩ := gif hf
  refine y_get X fl_RX2_12 dX2_waysAbove_45 g5 ?_
  obtain ⟨g6, hf⟩ := gif hf
  refine y_get X fl_RX2_170 dX2_waysAbove_48 g6 ?_
  refine z_iload_n X dX2_waysAbove_51 2 rfl ?_
  obtain ⟨g7, hf⟩ := gif hf
  refine y_iald X dX2_waysAbove_52 g7 ?_
  refine z_iconst X dX2_waysAbove_53 kc_1 ?_
  refine z_icmp_ne X dX2_waysAbove_54 rfl (fun hc54 => ?_) (fun hc54 => ?_)
  · have hf := iff' hc54 hf
    refine z_aload_n X dX2_waysAbove_61 1 rfl ?_
    refine z_aload_n X dX2_waysAbove_62 1 rfl ?_
    refine y_get X fl_RX2_12 dX2_waysAbove_63 g5 ?_
    refine y_get X fl_RX2_102 dX2_waysAbove_66 g6 ?_
    refine z_iload_n X dX2_waysAbove_69 2 rfl ?_
    obtain ⟨g8, hf⟩ := gif hf
    refine y_iald X dX2_waysAbove_70 g8 ?_
    obtain ⟨r71, hr71, hf⟩ := obE hf
    refine y_V1 X cv_RX2_149 dX2_waysAbove_71 g5 (c_Ch_guestRow d (Nat.le_trans (by decide) hd) l0 (h (h (h l0 0) 9) l1) h r71 hr71) (as := [(0, h (h (h l0 0) 9) l1)]) rfl rfl (Nat.le_of_ble_eq_true rfl) z00 ?_
    exact z_weak [1, 2, 3, 4, 5, 6, 7, 0] rfl (z_Ch_waysAbove_j74 X hd l0 l1 l2 l3 l4 l5 l6 s0 r71 h _ hf hK)
  · have hf := ift hc54 hf
    refine z_iconst X dX2_waysAbove_57 kc_m1 ?_
    refine z_goto X dX2_waysAbove_58 rfl ?_
    exact z_weak [1, 2, 3, 4, 5, 6, 7, 0] rfl (z_Ch_waysAbove_j74 X hd l0 l1 l2 l3 l4 l5 l6 s0 ((-1)) h _ hf hK)
set_option maxHeartbeats 4000000 in
set_option maxRecDepth 100000 in
theorem c_Ch_waysAbove {l : Launch} {g : GP} (d : Nat) (hd : 2 ≤ d) (l0 l1 l2 l3 l4 l5 : Int) (h : Hp) (y : Int) (hf : Ch_waysAbove l0 l1 l2 l3 l4 l5 h = some y) : zM l yX2_waysAbove cX2_waysAbove 17 (some .long) d 0 0 g 157 h [(2, l0), (0, l1), (0, l2), (0, l3), (0, l4), (0, l5)] 157 h (some (1, y)) := by
  obtain ⟨d, rfl⟩ : ∃ k, d = k + 1 := ⟨d - 1, by omega⟩
  replace hd : 1 ≤ d := Nat.le_of_succ_le_succ hd
  refine z_start (by decide) (Nat.le_of_ble_eq_true rfl) (fun x X hK _ _ _ hl => ?_)
  show ZV g x 17 h 0 [(0, (2, l0)), (1, (0, l1)), (2, (0, l2)), (3, (0, l3)), (4, (0, l4)), (5, (0, l5))] []
  unfold Ch_waysAbove at hf
  refine z_aload_n X dX2_waysAbove_0 0 rfl ?_
  refine z_iload_n X dX2_waysAbove_1 1 rfl ?_
  refine z_iconst X dX2_waysAbove_2 kc_0 ?_
  obtain ⟨g1, hf⟩ := gif hf
  obtain ⟨r3, hr3, hf⟩ := obE hf
  refine y_V1 X cv_RX2_33 dX2_waysAbove_3 g1 (c_Ch_row d (Nat.zero_le _) l0 l1 0 h r3 hr3) (as := [(0, l1), (0, 0)]) rfl rfl (Nat.le_of_ble_eq_true rfl) z00 ?_
  refine z_istore X dX2_waysAbove_6 (by decide) (ls' := [(6, (0, r3)), (0, (2, l0)), (1, (0, l1)), (2, (0, l2)), (3, (0, l3)), (4, (0, l4)), (5, (0, l5))]) rfl ?_
  refine z_aload_n X dX2_waysAbove_8 1 rfl ?_
  refine y_get X fl_RX2_12 dX2_waysAbove_9 g1 ?_
  obtain ⟨g2, hf⟩ := gif hf
  refine y_get X fl_RX2_170 dX2_waysAbove_12 g2 ?_
  refine z_iload_n X dX2_waysAbove_15 2 rfl ?_
  obtain ⟨g3, hf⟩ := gif hf
  refine y_iald X dX2_waysAbove_16 g3 ?_
  refine z_iconst X dX2_waysAbove_17 kc_2 ?_
  refine z_icmp_ne X dX2_waysAbove_18 rfl (fun hc18 => ?_) (fun hc18 => ?_)
  · have hf := iff' hc18 hf
    refine z_aload_n X dX2_waysAbove_25 1 rfl ?_
    refine y_get X fl_RX2_19 dX2_waysAbove_26 g1 ?_
    refine z_iload X dX2_waysAbove_29 0 rfl ?_
    refine z_iload_n X dX2_waysAbove_31 3 rfl ?_
    refine z_iload_n X dX2_waysAbove_32 4 rfl ?_
    refine z_iload X dX2_waysAbove_33 5 rfl ?_
    refine z_iload X dX2_waysAbove_35 6 rfl ?_
    obtain ⟨r37, hr37, hf⟩ := obE hf
    refine y_S1 X cs_RX2_37 dX2_waysAbove_37 (c_Ch_cell d (Nat.zero_le _) l2 l3 l4 l5 h r37 hr37) (as := [(0, l2), (0, l3), (0, l4), (0, l5)]) rfl rfl (Nat.le_of_ble_eq_true rfl) z00 ?_
    refine z_iadd X dX2_waysAbove_40 ?_
    obtain ⟨g4, hf⟩ := gif hf
    refine y_lald X dX2_waysAbove_41 g4 ?_
    exact z_weak [1, 2, 3, 4, 5, 6, 0] rfl (z_Ch_waysAbove_j42 X hd l0 l1 l2 l3 l4 l5 r3 (h (h l0 4) (w32 (r3 + r37))) h _ hf hK)
  · have hf := ift hc18 hf
    refine z_lconst0 X dX2_waysAbove_21 ?_
    refine z_goto X dX2_waysAbove_22 rfl ?_
    exact z_weak [1, 2, 3, 4, 5, 6, 0] rfl (z_Ch_waysAbove_j42 X hd l0 l1 l2 l3 l4 l5 r3 0 h _ hf hK)
set_option maxHeartbeats 4000000 in
set_option maxRecDepth 100000 in
theorem z_Ch_waysBelow_j205 {g : GP} {x : CX} {d : Nat} (X : zX g x RX2 cX2_waysBelow 17 (d + 1)) (hd : 1 ≤ d) (l0 l2 l3 l4 l5 l6 l7 l8 l9 l11 l12 : Int) (h : Hp) (y : (Int × Int) ⊕ (Int)) (hf : Ch_waysBelow_j205 l0 l2 l3 l4 l5 l6 l7 l8 l9 l11 l12 h = some y) (E : Int → Prop) (hx0 : ∀ e : Int, E (e) → ZV g x 17 h 211 [(9, (1, e))] []) (hk : z_sum (fun q : Int × Int => ZV g x 17 h 83 [(0, (2, l0)), (2, (0, l2)), (3, (0, l3)), (4, (0, l4)), (5, (0, l5)), (6, (0, l6)), (7, (0, l7)), (8, (0, l8)), (9, (1, q.1)), (11, (0, l11)), (12, (0, q.2))] []) E y) : ZV g x 17 h 205 [(0, (2, l0)), (2, (0, l2)), (3, (0, l3)), (4, (0, l4)), (5, (0, l5)), (6, (0, l6)), (7, (0, l7)), (8, (0, l8)), (9, (1, l9)), (11, (0, l11)), (12, (0, l12))] [] := by
  unfold Ch_waysBelow_j205 at hf
  refine z_iinc X dX2_waysBelow_205 10 rfl (by decide) (ls' := [(12, (0, w32 (l12 + 1))), (0, (2, l0)), (2, (0, l2)), (3, (0, l3)), (4, (0, l4)), (5, (0, l5)), (6, (0, l6)), (7, (0, l7)), (8, (0, l8)), (9, (1, l9)), (11, (0, l11))]) rfl ?_
  refine z_goto X dX2_waysBelow_208 rfl ?_
  cases hf
  exact z_weak [1, 2, 3, 4, 5, 6, 7, 8, 9, 10, 0] rfl hk
set_option maxHeartbeats 4000000 in
set_option maxRecDepth 100000 in
theorem z_Ch_waysBelow_j203 {g : GP} {x : CX} {d : Nat} (X : zX g x RX2 cX2_waysBelow 17 (d + 1)) (hd : 1 ≤ d) (l0 l2 l3 l4 l5 l6 l7 l8 l11 l12 s0 : Int) (h : Hp) (y : (Int × Int) ⊕ (Int)) (hf : Ch_waysBelow_j203 l0 l2 l3 l4 l5 l6 l7 l8 l11 l12 s0 h = some y) (E : Int → Prop) (hx0 : ∀ e : Int, E (e) → ZV g x 17 h 211 [(9, (1, e))] []) (hk : z_sum (fun q : Int × Int => ZV g x 17 h 83 [(0, (2, l0)), (2, (0, l2)), (3, (0, l3)), (4, (0, l4)), (5, (0, l5)), (6, (0, l6)), (7, (0, l7)), (8, (0, l8)), (9, (1, q.1)), (11, (0, l11)), (12, (0, q.2))] []) E y) : ZV g x 17 h 203 [(0, (2, l0)), (2, (0, l2)), (3, (0, l3)), (4, (0, l4)), (5, (0, l5)), (6, (0, l6)), (7, (0, l7)), (8, (0, l8)), (11, (0, l11)), (12, (0, l12))] [(1, s0)] := by
  unfold Ch_waysBelow_j203 at hf
  refine z_lstore X dX2_waysBelow_203 (by decide) (ls' := [(9, (1, s0)), (0, (2, l0)), (2, (0, l2)), (3, (0, l3)), (4, (0, l4)), (5, (0, l5)), (6, (0, l6)), (7, (0, l7)), (8, (0, l8)), (11, (0, l11)), (12, (0, l12))]) rfl ?_
  exact z_weak [1, 2, 3, 4, 5, 6, 7, 8, 0, 9, 10] rfl (z_Ch_waysBelow_j205 X hd l0 l2 l3 l4 l5 l6 l7 l8 s0 l11 l12 h _ hf E hx0 hk)
set_option maxHeartbeats 4000000 in
set_option maxRecDepth 100000 in
theorem z_Ch_waysBelow_j169 {g : GP} {x : CX} {d : Nat} (X : zX g x RX2 cX2_waysBelow 17 (d + 1)) (hd : 1 ≤ d) (l0 l2 l3 l4 l5 l6 l7 l8 l9 l11 l12 l13 s0 : Int) (h : Hp) (y : (Int × Int) ⊕ (Int)) (hf : Ch_waysBelow_j169 l0 l2 l3 l4 l5 l6 l7 l8 l9 l11 l12 l13 s0 h = some y) (E : Int → Prop) (hx0 : ∀ e : Int, E (e) → ZV g x 17 h 211 [(9, (1, e))] []) (hk : z_sum (fun q : Int × Int => ZV g x 17 h 83 [(0, (2, l0)), (2, (0, l2)), (3, (0, l3)), (4, (0, l4)), (5, (0, l5)), (6, (0, l6)), (7, (0, l7)), (8, (0, l8)), (9, (1, q.1)), (11, (0, l11)), (12, (0, q.2))] []) E y) : ZV g x 17 h 169 [(0, (2, l0)), (2, (0, l2)), (3, (0, l3)), (4, (0, l4)), (5, (0, l5)), (6, (0, l6)), (7, (0, l7)), (8, (0, l8)), (9, (1, l9)), (11, (0, l11)), (12, (0, l12)), (13, (1, l13))] [(1, s0)] := by
  unfold Ch_waysBelow_j169 at hf
  refine z_lstore X dX2_waysBelow_169 (by decide) (ls' := [(15, (1, s0)), (0, (2, l0)), (2, (0, l2)), (3, (0, l3)), (4, (0, l4)), (5, (0, l5)), (6, (0, l6)), (7, (0, l7)), (8, (0, l8)), (9, (1, l9)), (11, (0, l11)), (12, (0, l12)), (13, (1, l13))]) rfl ?_
  refine z_lload X dX2_waysBelow_171 0 rfl ?_
  refine z_lconst0 X dX2_waysBelow_173 ?_
  refine z_l_ne X dX2_waysBelow_174 dX2_waysBelow_175 rfl (fun hc174 => ?_) (fun hc174 => ?_)
  · have hf := iff' hc174 hf
    refine z_aload_n X dX2_waysBelow_183 1 rfl ?_
    obtain ⟨g8, hf⟩ := gif hf
    refine y_get X fl_RX2_57 dX2_waysBelow_184 g8 ?_
    refine z_lload X dX2_waysBelow_187 9 rfl ?_
    refine z_aload_n X dX2_waysBelow_189 1 rfl ?_
    refine y_get X fl_RX2_57 dX2_waysBelow_190 g8 ?_
    refine z_lload X dX2_waysBelow_193 12 rfl ?_
    refine z_lload X dX2_waysBelow_195 0 rfl ?_
    obtain ⟨r197, hr197, hf⟩ := obE hf
    refine ya_RX2_167 X (Nat.le_trans (by decide) hd) dX2_waysBelow_197 (h l0 3) l13 s0 h r197 hr197 (Nat.le_of_ble_eq_true rfl) ?_
    obtain ⟨r200, hr200, hf⟩ := obE hf
    refine ya_RX2_127 X (Nat.le_trans (by decide) hd) dX2_waysBelow_200 (h l0 3) l9 r197 h r200 hr200 (Nat.le_of_ble_eq_true rfl) ?_
    exact z_weak [1, 2, 3, 4, 5, 6, 7, 8, 10, 11] rfl (z_Ch_waysBelow_j203 X hd l0 l2 l3 l4 l5 l6 l7 l8 l11 l12 r200 h _ hf E hx0 hk)
  · have hf := ift hc174 hf
    refine z_lload X dX2_waysBelow_178 9 rfl ?_
    refine z_goto X dX2_waysBelow_180 rfl ?_
    exact z_weak [1, 2, 3, 4, 5, 6, 7, 8, 10, 11] rfl (z_Ch_waysBelow_j203 X hd l0 l2 l3 l4 l5 l6 l7 l8 l11 l12 l9 h _ hf E hx0 hk)
set_option maxHeartbeats 4000000 in
set_option maxRecDepth 100000 in
theorem z_Ch_waysBelow_j126 {g : GP} {x : CX} {d : Nat} (X : zX g x RX2 cX2_waysBelow 17 (d + 1)) (hd : 1 ≤ d) (l0 l2 l3 l4 l5 l6 l7 l8 l9 l11 l12 s0 : Int) (h : Hp) (y : (Int × Int) ⊕ (Int)) (hf : Ch_waysBelow_j126 l0 l2 l3 l4 l5 l6 l7 l8 l9 l11 l12 s0 h = some y) (E : Int → Prop) (hx0 : ∀ e : Int, E (e) → ZV g x 17 h 211 [(9, (1, e))] []) (hk : z_sum (fun q : Int × Int => ZV g x 17 h 83 [(0, (2, l0)), (2, (0, l2)), (3, (0, l3)), (4, (0, l4)), (5, (0, l5)), (6, (0, l6)), (7, (0, l7)), (8, (0, l8)), (9, (1, q.1)), (11, (0, l11)), (12, (0, q.2))] []) E y) : ZV g x 17 h 126 [(0, (2, l0)), (2, (0, l2)), (3, (0, l3)), (4, (0, l4)), (5, (0, l5)), (6, (0, l6)), (7, (0, l7)), (8, (0, l8)), (9, (1, l9)), (11, (0, l11)), (12, (0, l12))] [(1, s0)] := by
  unfold Ch_waysBelow_j126 at hf
  refine z_lstore X dX2_waysBelow_126 (by decide) (ls' := [(13, (1, s0)), (0, (2, l0)), (2, (0, l2)), (3, (0, l3)), (4, (0, l4)), (5, (0, l5)), (6, (0, l6)), (7, (0, l7)), (8, (0, l8)), (9, (1, l9)), (11, (0, l11)), (12, (0, l12))]) rfl ?_
  refine z_lload X dX2_waysBelow_128 0 rfl ?_
  refine z_lconst0 X dX2_waysBelow_130 ?_
  refine z_l_eq X dX2_waysBelow_131 dX2_waysBelow_132 rfl (fun hc131 => ?_) (fun hc131 => ?_)
  · have hf := ift hc131 hf
    exact z_weak [1, 2, 3, 4, 5, 6, 7, 8, 9, 10, 11] rfl (z_Ch_waysBelow_j205 X hd l0 l2 l3 l4 l5 l6 l7 l8 l9 l11 l12 h _ hf E hx0 hk)
  · have hf := iff' hc131 hf
    refine z_iload X dX2_waysBelow_135 8 rfl ?_
    refine z_if_eq X dX2_waysBelow_137 rfl (fun hc137 => ?_) (fun hc137 => ?_)
    · have hf := ift hc137 hf
      refine z_aload_n X dX2_waysBelow_155 1 rfl ?_
      refine z_iload X dX2_waysBelow_156 7 rfl ?_
      refine z_iconst X dX2_waysBelow_158 kc_1 ?_
      refine z_iload X dX2_waysBelow_159 11 rfl ?_
      refine z_iload_n X dX2_waysBelow_161 3 rfl ?_
      refine z_iload X dX2_waysBelow_162 4 rfl ?_
      refine z_iload X dX2_waysBelow_164 5 rfl ?_
      obtain ⟨g7, hf⟩ := gif hf
      obtain ⟨r166, hr166, hf⟩ := obE hf
      refine y_V1 X cv_RX2_119 dX2_waysBelow_166 g7 (c_Ch_value d (Nat.le_trans (by decide) hd) l0 l7 1 l12 l3 l4 l5 h r166 hr166) (as := [(0, l7), (0, 1), (0, l12), (0, l3), (0, l4), (0, l5)]) rfl rfl (Nat.le_of_ble_eq_true rfl) z00 ?_
      exact z_weak [1, 2, 3, 4, 5, 6, 7, 8, 9, 10, 11, 0] rfl (z_Ch_waysBelow_j169 X hd l0 l2 l3 l4 l5 l6 l7 l8 l9 l11 l12 s0 r166 h _ hf E hx0 hk)
    · have hf := iff' hc137 hf
      refine z_aload_n X dX2_waysBelow_140 1 rfl ?_
      refine z_iload X dX2_waysBelow_141 7 rfl ?_
      refine z_iconst X dX2_waysBelow_143 kc_1 ?_
      refine z_iload X dX2_waysBelow_144 11 rfl ?_
      refine z_iload_n X dX2_waysBelow_146 3 rfl ?_
      refine z_iload_n X dX2_waysBelow_147 3 rfl ?_
      refine z_iload_n X dX2_waysBelow_148 3 rfl ?_
      obtain ⟨g9, hf⟩ := gif hf
      obtain ⟨r149, hr149, hf⟩ := obE hf
      refine y_V1 X cv_RX2_119 dX2_waysBelow_149 g9 (c_Ch_value d (Nat.le_trans (by decide) hd) l0 l7 1 l12 l3 l3 l3 h r149 hr149) (as := [(0, l7), (0, 1), (0, l12), (0, l3), (0, l3), (0, l3)]) rfl rfl (Nat.le_of_ble_eq_true rfl) z00 ?_
      refine z_goto X dX2_waysBelow_152 rfl ?_
      exact z_weak [1, 2, 3, 4, 5, 6, 7, 8, 9, 10, 11, 0] rfl (z_Ch_waysBelow_j169 X hd l0 l2 l3 l4 l5 l6 l7 l8 l9 l11 l12 s0 r149 h _ hf E hx0 hk)
set_option maxHeartbeats 4000000 in
set_option maxRecDepth 100000 in
theorem z_Ch_waysBelow_L83 {g : GP} {x : CX} {d : Nat} (X : zX g x RX2 cX2_waysBelow 17 (d + 1)) (hd : 1 ≤ d) (l0 l2 l3 l4 l5 l6 l7 l8 l11 : Int) (h : Hp) (E : Int → Prop) (hx0 : ∀ e : Int, E (e) → ZV g x 17 h 211 [(9, (1, e))] []) (l9 l12 : Int) (y : (Int × Int) ⊕ (Int)) (hf : Ch_waysBelow_L83 l0 l2 l3 l4 l5 l6 l7 l8 l11 h l9 l12 = some y) (hk : z_sum (fun q : Int × Int => ZV g x 17 h 83 [(0, (2, l0)), (2, (0, l2)), (3, (0, l3)), (4, (0, l4)), (5, (0, l5)), (6, (0, l6)), (7, (0, l7)), (8, (0, l8)), (9, (1, q.1)), (11, (0, l11)), (12, (0, q.2))] []) E y) : ZV g x 17 h 83 [(0, (2, l0)), (2, (0, l2)), (3, (0, l3)), (4, (0, l4)), (5, (0, l5)), (6, (0, l6)), (7, (0, l7)), (8, (0, l8)), (9, (1, l9)), (11, (0, l11)), (12, (0, l12))] [] := by
  unfold Ch_waysBelow_L83 at hf
  refine z_iload X dX2_waysBelow_83 10 rfl ?_
  refine z_iload X dX2_waysBelow_85 9 rfl ?_
  refine z_icmp_gt X dX2_waysBelow_87 rfl (fun hc87 => ?_) (fun hc87 => ?_)
  · have hf := ift hc87 hf
    cases hf
    exact z_weak [8] rfl (hx0 _ hk)
  · have hf := iff' hc87 hf
    refine z_iload X dX2_waysBelow_90 7 rfl ?_
    refine z_if_eq X dX2_waysBelow_92 rfl (fun hc92 => ?_) (fun hc92 => ?_)
    · have hf := ift hc92 hf
      refine z_aload_n X dX2_waysBelow_112 0 rfl ?_
      refine z_iload X dX2_waysBelow_113 5 rfl ?_
      refine z_iconst X dX2_waysBelow_115 kc_1 ?_
      refine z_iload_n X dX2_waysBelow_116 1 rfl ?_
      refine z_iload X dX2_waysBelow_117 10 rfl ?_
      refine z_iload X dX2_waysBelow_119 10 rfl ?_
      refine z_iload X dX2_waysBelow_121 10 rfl ?_
      obtain ⟨g6, hf⟩ := gif hf
      obtain ⟨r123, hr123, hf⟩ := obE hf
      refine y_V1 X cv_RX2_119 dX2_waysBelow_123 g6 (c_Ch_value d (Nat.le_trans (by decide) hd) l0 l6 1 l2 l12 l12 l12 h r123 hr123) (as := [(0, l6), (0, 1), (0, l2), (0, l12), (0, l12), (0, l12)]) rfl rfl (Nat.le_of_ble_eq_true rfl) z00 ?_
      exact (z_Ch_waysBelow_j126 X hd l0 l2 l3 l4 l5 l6 l7 l8 l9 l11 l12 r123 h _ hf E hx0 hk)
    · have hf := iff' hc92 hf
      refine z_aload_n X dX2_waysBelow_95 0 rfl ?_
      refine z_iload X dX2_waysBelow_96 5 rfl ?_
      refine z_iconst X dX2_waysBelow_98 kc_1 ?_
      refine z_iload_n X dX2_waysBelow_99 1 rfl ?_
      refine z_iload X dX2_waysBelow_100 10 rfl ?_
      refine z_iload X dX2_waysBelow_102 3 rfl ?_
      refine z_iload X dX2_waysBelow_104 4 rfl ?_
      obtain ⟨g10, hf⟩ := gif hf
      obtain ⟨r106, hr106, hf⟩ := obE hf
      refine y_V1 X cv_RX2_119 dX2_waysBelow_106 g10 (c_Ch_value d (Nat.le_trans (by decide) hd) l0 l6 1 l2 l12 l4 l5 h r106 hr106) (as := [(0, l6), (0, 1), (0, l2), (0, l12), (0, l4), (0, l5)]) rfl rfl (Nat.le_of_ble_eq_true rfl) z00 ?_
      refine z_goto X dX2_waysBelow_109 rfl ?_
      exact (z_Ch_waysBelow_j126 X hd l0 l2 l3 l4 l5 l6 l7 l8 l9 l11 l12 r106 h _ hf E hx0 hk)
set_option maxHeartbeats 4000000 in
set_option maxRecDepth 100000 in
theorem z_Ch_waysBelow_j81 {g : GP} {x : CX} {d : Nat} (X : zX g x RX2 cX2_waysBelow 17 (d + 1)) (hd : 1 ≤ d) (l0 l2 l3 l4 l5 l6 l7 l8 l9 l11 s0 : Int) (h : Hp) (y : Int) (hf : Ch_waysBelow_j81 l0 l2 l3 l4 l5 l6 l7 l8 l9 l11 s0 h = some y) (hK : zE g x (some .long) 0 0 157 h (some (1, y))) : ZV g x 17 h 81 [(0, (2, l0)), (2, (0, l2)), (3, (0, l3)), (4, (0, l4)), (5, (0, l5)), (6, (0, l6)), (7, (0, l7)), (8, (0, l8)), (9, (1, l9)), (11, (0, l11))] [(0, s0)] := by
  unfold Ch_waysBelow_j81 at hf
  refine z_istore X dX2_waysBelow_81 (by decide) (ls' := [(12, (0, s0)), (0, (2, l0)), (2, (0, l2)), (3, (0, l3)), (4, (0, l4)), (5, (0, l5)), (6, (0, l6)), (7, (0, l7)), (8, (0, l8)), (9, (1, l9)), (11, (0, l11))]) rfl ?_
  obtain ⟨q83, hq83, hf⟩ := obE hf
  have hx83_0 : ∀ e211 : Int, (e211 : Int) = q83 → ZV g x 17 h 211 [(9, (1, e211))] [] := by
    intro e211 hq
    subst hq
    refine z_lload X dX2_waysBelow_211 0 rfl ?_
    cases hf
    exact z_lret X hK dX2_waysBelow_213
  exact z_weak [1, 2, 3, 4, 5, 6, 7, 8, 9, 10, 0] rfl (z_loop (Z := (fun q : Int × Int => ZV g x 17 h 83 [(0, (2, l0)), (2, (0, l2)), (3, (0, l3)), (4, (0, l4)), (5, (0, l5)), (6, (0, l6)), (7, (0, l7)), (8, (0, l8)), (9, (1, q.1)), (11, (0, l11)), (12, (0, q.2))] [])) (E := fun q => q = q83) (fun q y hb hk => z_Ch_waysBelow_L83 X hd l0 l2 l3 l4 l5 l6 l7 l8 l11 h (fun q => q = q83) hx83_0 q.1 q.2 y hb hk) LN (l9, s0) q83 hq83 rfl)
set_option maxHeartbeats 4000000 in
set_option maxRecDepth 100000 in
theorem z_Ch_waysBelow_j68 {g : GP} {x : CX} {d : Nat} (X : zX g x RX2 cX2_waysBelow 17 (d + 1)) (hd : 1 ≤ d) (l0 l2 l3 l4 l5 l6 l7 l8 l9 s0 : Int) (h : Hp) (y : Int) (hf : Ch_waysBelow_j68 l0 l2 l3 l4 l5 l6 l7 l8 l9 s0 h = some y) (hK : zE g x (some .long) 0 0 157 h (some (1, y))) : ZV g x 17 h 68 [(0, (2, l0)), (2, (0, l2)), (3, (0, l3)), (4, (0, l4)), (5, (0, l5)), (6, (0, l6)), (7, (0, l7)), (8, (0, l8)), (9, (1, l9))] [(0, s0)] := by
  unfold Ch_waysBelow_j68 at hf
  refine z_istore X dX2_waysBelow_68 (by decide) (ls' := [(11, (0, s0)), (0, (2, l0)), (2, (0, l2)), (3, (0, l3)), (4, (0, l4)), (5, (0, l5)), (6, (0, l6)), (7, (0, l7)), (8, (0, l8)), (9, (1, l9))]) rfl ?_
  refine z_iload X dX2_waysBelow_70 8 rfl ?_
  refine z_if_eq X dX2_waysBelow_72 rfl (fun hc72 => ?_) (fun hc72 => ?_)
  · rw [if_pos hc72] at hf
    refine z_iload_n X dX2_waysBelow_80 2 rfl ?_
    exact z_weak [1, 2, 3, 4, 5, 6, 7, 8, 9, 0] rfl (z_Ch_waysBelow_j81 X hd l0 l2 l3 l4 l5 l6 l7 l8 l9 s0 l2 h _ hf hK)
  · rw [if_neg hc72] at hf
    refine z_iload X dX2_waysBelow_75 5 rfl ?_
    refine z_goto X dX2_waysBelow_77 rfl ?_
    exact z_weak [1, 2, 3, 4, 5, 6, 7, 8, 9, 0] rfl (z_Ch_waysBelow_j81 X hd l0 l2 l3 l4 l5 l6 l7 l8 l9 s0 l5 h _ hf hK)
set_option maxHeartbeats 4000000 in
set_option maxRecDepth 100000 in
theorem c_Ch_waysBelow {l : Launch} {g : GP} (d : Nat) (hd : 2 ≤ d) (l0 l1 l2 l3 l4 l5 : Int) (h : Hp) (y : Int) (hf : Ch_waysBelow l0 l1 l2 l3 l4 l5 h = some y) : zM l yX2_waysBelow cX2_waysBelow 17 (some .long) d 0 0 g 157 h [(2, l0), (0, l1), (0, l2), (0, l3), (0, l4), (0, l5)] 157 h (some (1, y)) := by
  obtain ⟨d, rfl⟩ : ∃ k, d = k + 1 := ⟨d - 1, by omega⟩
  replace hd : 1 ≤ d := Nat.le_of_succ_le_succ hd
  refine z_start (by decide) (Nat.le_of_ble_eq_true rfl) (fun x X hK _ _ _ hl => ?_)
  show ZV g x 17 h 0 [(0, (2, l0)), (1, (0, l1)), (2, (0, l2)), (3, (0, l3)), (4, (0, l4)), (5, (0, l5))] []
  unfold Ch_waysBelow at hf
  refine z_aload_n X dX2_waysBelow_0 0 rfl ?_
  obtain ⟨g1, hf⟩ := gif hf
  refine y_get X fl_RX2_12 dX2_waysBelow_1 g1 ?_
  obtain ⟨g2, hf⟩ := gif hf
  refine y_get X fl_RX2_161 dX2_waysBelow_4 g2 ?_
  refine z_iload_n X dX2_waysBelow_7 1 rfl ?_
  obtain ⟨g3, hf⟩ := gif hf
  refine y_iald X dX2_waysBelow_8 g3 ?_
  refine z_istore X dX2_waysBelow_9 (by decide) (ls' := [(6, (0, h (h (h l0 0) 11) l1)), (0, (2, l0)), (1, (0, l1)), (2, (0, l2)), (3, (0, l3)), (4, (0, l4)), (5, (0, l5))]) rfl ?_
  refine z_aload_n X dX2_waysBelow_11 1 rfl ?_
  refine y_get X fl_RX2_12 dX2_waysBelow_12 g1 ?_
  refine y_get X fl_RX2_164 dX2_waysBelow_15 g2 ?_
  refine z_iload_n X dX2_waysBelow_18 2 rfl ?_
  obtain ⟨g4, hf⟩ := gif hf
  refine y_iald X dX2_waysBelow_19 g4 ?_
  refine z_istore X dX2_waysBelow_20 (by decide) (ls' := [(7, (0, h (h (h l0 0) 12) l1)), (6, (0, h (h (h l0 0) 11) l1)), (0, (2, l0)), (1, (0, l1)), (2, (0, l2)), (3, (0, l3)), (4, (0, l4)), (5, (0, l5))]) rfl ?_
  refine z_iload X dX2_waysBelow_22 0 rfl ?_
  refine z_iconst X dX2_waysBelow_24 kc_m1 ?_
  refine z_icmp_ne X dX2_waysBelow_25 rfl (fun hc25 => ?_) (fun hc25 => ?_)
  · have hf := iff' hc25 hf
    refine z_aload_n X dX2_waysBelow_42 2 rfl ?_
    refine y_get X fl_RX2_12 dX2_waysBelow_43 g1 ?_
    refine y_get X fl_RX2_131 dX2_waysBelow_46 g2 ?_
    refine z_iload X dX2_waysBelow_49 1 rfl ?_
    obtain ⟨g5, hf⟩ := gif hf
    refine y_zald X dX2_waysBelow_51 g5 ?_
    refine z_istore X dX2_waysBelow_52 (by decide) (ls' := [(8, (0, h (h (h l0 0) 15) (h (h (h l0 0) 11) l1))), (7, (0, h (h (h l0 0) 12) l1)), (6, (0, h (h (h l0 0) 11) l1)), (0, (2, l0)), (1, (0, l1)), (2, (0, l2)), (3, (0, l3)), (4, (0, l4)), (5, (0, l5))]) rfl ?_
    refine z_lconst0 X dX2_waysBelow_54 ?_
    refine z_lstore X dX2_waysBelow_55 (by decide) (ls' := [(9, (1, 0)), (8, (0, h (h (h l0 0) 15) (h (h (h l0 0) 11) l1))), (7, (0, h (h (h l0 0) 12) l1)), (6, (0, h (h (h l0 0) 11) l1)), (0, (2, l0)), (1, (0, l1)), (2, (0, l2)), (3, (0, l3)), (4, (0, l4)), (5, (0, l5))]) rfl ?_
    refine z_iload X dX2_waysBelow_57 1 rfl ?_
    refine z_if_eq X dX2_waysBelow_59 rfl (fun hc59 => ?_) (fun hc59 => ?_)
    · rw [if_pos hc59] at hf
      refine z_iload X dX2_waysBelow_66 8 rfl ?_
      exact z_weak [4, 6, 7, 8, 9, 3, 2, 1, 0] rfl (z_Ch_waysBelow_j68 X hd l0 l2 l3 l4 l5 (h (h (h l0 0) 11) l1) (h (h (h l0 0) 12) l1) (h (h (h l0 0) 15) (h (h (h l0 0) 11) l1)) 0 l4 h _ hf hK)
    · rw [if_neg hc59] at hf
      refine z_iload_n X dX2_waysBelow_62 7 rfl ?_
      refine z_goto X dX2_waysBelow_63 rfl ?_
      exact z_weak [4, 6, 7, 8, 9, 3, 2, 1, 0] rfl (z_Ch_waysBelow_j68 X hd l0 l2 l3 l4 l5 (h (h (h l0 0) 11) l1) (h (h (h l0 0) 12) l1) (h (h (h l0 0) 15) (h (h (h l0 0) 11) l1)) 0 l3 h _ hf hK)
  · have hf := ift hc25 hf
    refine z_aload_n X dX2_waysBelow_28 2 rfl ?_
    refine z_iload X dX2_waysBelow_29 1 rfl ?_
    refine z_iconst X dX2_waysBelow_31 kc_1 ?_
    refine z_iload_n X dX2_waysBelow_32 4 rfl ?_
    refine z_iload_n X dX2_waysBelow_33 5 rfl ?_
    refine z_iload X dX2_waysBelow_34 6 rfl ?_
    refine z_iload X dX2_waysBelow_36 7 rfl ?_
    obtain ⟨r38, hr38, hf⟩ := obE hf
    refine y_V1 X cv_RX2_119 dX2_waysBelow_38 g1 (c_Ch_value d (Nat.le_trans (by decide) hd) l0 (h (h (h l0 0) 11) l1) 1 l2 l3 l4 l5 h r38 hr38) (as := [(0, h (h (h l0 0) 11) l1), (0, 1), (0, l2), (0, l3), (0, l4), (0, l5)]) rfl rfl (Nat.le_of_ble_eq_true rfl) z00 ?_
    cases hf
    exact z_lret X hK dX2_waysBelow_41
set_option maxHeartbeats 4000000 in
set_option maxRecDepth 100000 in
theorem z_Ch_fillBranch_j219 {g : GP} {x : CX} {d : Nat} (X : zX g x RX2 cX2_fillBranch 13 (d + 1)) (hd : 2 ≤ d) (l0 l1 l2 l3 l4 l5 l6 l7 l8 l9 : Int) (h : Hp) (y : (Int × Hp) ⊕ (Hp)) (hf : Ch_fillBranch_j219 l0 l1 l2 l3 l4 l5 l6 l7 l8 l9 h = some y) (E : Hp → Prop) (hx0 : ∀ e : Hp, E (e) → ZV g x 13 e 225 [(0, (2, l0)), (1, (0, l1)), (2, (0, l2)), (3, (0, l3)), (4, (0, l4)), (5, (0, l5)), (6, (0, l6)), (7, (0, l7))] []) (hk : z_sum (fun q : Int × Hp => ZV g x 13 q.2 108 [(0, (2, l0)), (1, (0, l1)), (2, (0, l2)), (3, (0, l3)), (4, (0, l4)), (5, (0, l5)), (6, (0, l6)), (7, (0, l7)), (8, (0, l8)), (9, (0, q.1))] []) E y) : ZV g x 13 h 219 [(0, (2, l0)), (1, (0, l1)), (2, (0, l2)), (3, (0, l3)), (4, (0, l4)), (5, (0, l5)), (6, (0, l6)), (7, (0, l7)), (8, (0, l8)), (9, (0, l9))] [] := by
  unfold Ch_fillBranch_j219 at hf
  refine z_iinc X dX2_fillBranch_219 9 rfl (by decide) (ls' := [(9, (0, w32 (l9 + 1))), (0, (2, l0)), (1, (0, l1)), (2, (0, l2)), (3, (0, l3)), (4, (0, l4)), (5, (0, l5)), (6, (0, l6)), (7, (0, l7)), (8, (0, l8))]) rfl ?_
  refine z_goto X dX2_fillBranch_222 rfl ?_
  cases hf
  exact z_weak [1, 2, 3, 4, 5, 6, 7, 8, 9, 0] rfl hk
set_option maxHeartbeats 4000000 in
set_option maxRecDepth 100000 in
theorem z_Ch_fillBranch_L108 {g : GP} {x : CX} {d : Nat} (X : zX g x RX2 cX2_fillBranch 13 (d + 1)) (hd : 2 ≤ d) (l0 l1 l2 l3 l4 l5 l6 l7 l8 : Int)  (E : Hp → Prop) (hx0 : ∀ e : Hp, E (e) → ZV g x 13 e 225 [(0, (2, l0)), (1, (0, l1)), (2, (0, l2)), (3, (0, l3)), (4, (0, l4)), (5, (0, l5)), (6, (0, l6)), (7, (0, l7))] []) (l9 : Int) (h : Hp) (y : (Int × Hp) ⊕ (Hp)) (hf : Ch_fillBranch_L108 l0 l1 l2 l3 l4 l5 l6 l7 l8 l9 h = some y) (hk : z_sum (fun q : Int × Hp => ZV g x 13 q.2 108 [(0, (2, l0)), (1, (0, l1)), (2, (0, l2)), (3, (0, l3)), (4, (0, l4)), (5, (0, l5)), (6, (0, l6)), (7, (0, l7)), (8, (0, l8)), (9, (0, q.1))] []) E y) : ZV g x 13 h 108 [(0, (2, l0)), (1, (0, l1)), (2, (0, l2)), (3, (0, l3)), (4, (0, l4)), (5, (0, l5)), (6, (0, l6)), (7, (0, l7)), (8, (0, l8)), (9, (0, l9))] [] := by
  unfold Ch_fillBranch_L108 at hf
  refine z_iload X dX2_fillBranch_108 9 rfl ?_
  refine z_iload X dX2_fillBranch_110 8 rfl ?_
  refine z_iadd X dX2_fillBranch_112 ?_
  refine z_iload X dX2_fillBranch_113 7 rfl ?_
  refine z_icmp_gt X dX2_fillBranch_115 rfl (fun hc115 => ?_) (fun hc115 => ?_)
  · have hf := ift hc115 hf
    cases hf
    exact z_weak [0, 1, 2, 3, 4, 5, 6, 7] rfl (hx0 _ hk)
  · have hf := iff' hc115 hf
    refine z_iload X dX2_fillBranch_118 5 rfl ?_
    refine z_iload X dX2_fillBranch_120 7 rfl ?_
    refine z_iload X dX2_fillBranch_122 9 rfl ?_
    refine z_iload X dX2_fillBranch_124 9 rfl ?_
    refine z_iload X dX2_fillBranch_126 8 rfl ?_
    refine z_iadd X dX2_fillBranch_128 ?_
    obtain ⟨r129, hr129, hf⟩ := obE hf
    refine y_S1 X cs_RX2_37 dX2_fillBranch_129 (c_Ch_cell d (Nat.zero_le _) l5 l7 l9 (w32 (l9 + l8)) h r129 hr129) (as := [(0, l5), (0, l7), (0, l9), (0, w32 (l9 + l8))]) rfl rfl (Nat.le_of_ble_eq_true rfl) z00 ?_
    refine z_istore X dX2_fillBranch_132 (by decide) (ls' := [(10, (0, r129)), (0, (2, l0)), (1, (0, l1)), (2, (0, l2)), (3, (0, l3)), (4, (0, l4)), (5, (0, l5)), (6, (0, l6)), (7, (0, l7)), (8, (0, l8)), (9, (0, l9))]) rfl ?_
    refine z_aload_n X dX2_fillBranch_134 1 rfl ?_
    obtain ⟨g5, hf⟩ := gif hf
    refine y_get X fl_RX2_19 dX2_fillBranch_135 g5 ?_
    refine z_aload_n X dX2_fillBranch_138 1 rfl ?_
    refine z_iload_n X dX2_fillBranch_139 2 rfl ?_
    refine z_iconst X dX2_fillBranch_140 kc_0 ?_
    obtain ⟨r141, hr141, hf⟩ := obE hf
    refine y_V1 X cv_RX2_33 dX2_fillBranch_141 g5 (c_Ch_row d (Nat.zero_le _) l0 l1 0 h r141 hr141) (as := [(0, l1), (0, 0)]) rfl rfl (Nat.le_of_ble_eq_true rfl) z00 ?_
    refine z_iload X dX2_fillBranch_144 0 rfl ?_
    refine z_iadd X dX2_fillBranch_146 ?_
    refine z_aload_n X dX2_fillBranch_147 1 rfl ?_
    refine z_iload_n X dX2_fillBranch_148 2 rfl ?_
    refine z_iload X dX2_fillBranch_149 6 rfl ?_
    refine z_iload X dX2_fillBranch_151 8 rfl ?_
    refine z_iload X dX2_fillBranch_153 10 rfl ?_
    refine z_iload X dX2_fillBranch_155 10 rfl ?_
    refine z_iload X dX2_fillBranch_157 9 rfl ?_
    refine z_iadd X dX2_fillBranch_159 ?_
    obtain ⟨r160, hr160, hf⟩ := obE hf
    refine y_V1 X cv_RX2_138 dX2_fillBranch_160 g5 (c_Ch_waysBelow d (Nat.le_trans (by decide) hd) l0 l1 l5 l7 l9 (w32 (l9 + l8)) h r160 hr160) (as := [(0, l1), (0, l5), (0, l7), (0, l9), (0, w32 (l9 + l8))]) rfl rfl (Nat.le_of_ble_eq_true rfl) z00 ?_
    obtain ⟨g6, hf⟩ := gif hf
    refine y_last X dX2_fillBranch_163 g6 ?_
    let h_1 : Hp := hput h (h l0 4) (w32 (r141 + r129)) r160
    refine z_aload_n X dX2_fillBranch_164 1 rfl ?_
    refine z_iload_n X dX2_fillBranch_165 2 rfl ?_
    refine z_iload X dX2_fillBranch_166 6 rfl ?_
    refine z_iload X dX2_fillBranch_168 8 rfl ?_
    refine z_iload X dX2_fillBranch_170 10 rfl ?_
    refine z_iload X dX2_fillBranch_172 10 rfl ?_
    refine z_iload X dX2_fillBranch_174 9 rfl ?_
    refine z_iadd X dX2_fillBranch_176 ?_
    obtain ⟨r177, hr177, hf⟩ := obE hf
    refine y_V1 X cv_RX2_142 dX2_fillBranch_177 g5 (c_Ch_waysAbove d (Nat.le_trans (by decide) hd) l0 l1 l5 l7 l9 (w32 (l9 + l8)) h_1 r177 hr177) (as := [(0, l1), (0, l5), (0, l7), (0, l9), (0, w32 (l9 + l8))]) rfl rfl (Nat.le_of_ble_eq_true rfl) z00 ?_
    refine z_lstore X dX2_fillBranch_180 (by decide) (ls' := [(11, (1, r177)), (10, (0, r129)), (0, (2, l0)), (1, (0, l1)), (2, (0, l2)), (3, (0, l3)), (4, (0, l4)), (5, (0, l5)), (6, (0, l6)), (7, (0, l7)), (8, (0, l8)), (9, (0, l9))]) rfl ?_
    refine z_aload_n X dX2_fillBranch_182 2 rfl ?_
    refine y_get X fl_RX2_19 dX2_fillBranch_183 g5 ?_
    refine z_aload_n X dX2_fillBranch_186 2 rfl ?_
    refine z_iload_n X dX2_fillBranch_187 3 rfl ?_
    refine z_iconst X dX2_fillBranch_188 kc_1 ?_
    obtain ⟨r189, hr189, hf⟩ := obE hf
    refine y_V1 X cv_RX2_33 dX2_fillBranch_189 g5 (c_Ch_row d (Nat.zero_le _) l0 l1 1 h_1 r189 hr189) (as := [(0, l1), (0, 1)]) rfl rfl (Nat.le_of_ble_eq_true rfl) z00 ?_
    refine z_iload X dX2_fillBranch_192 1 rfl ?_
    refine z_iadd X dX2_fillBranch_194 ?_
    refine z_lload X dX2_fillBranch_195 0 rfl ?_
    obtain ⟨g7, hf⟩ := gif hf
    refine y_last X dX2_fillBranch_197 g7 ?_
    let h_2 : Hp := hput h_1 (h_1 l0 4) (w32 (r189 + r129)) r177
    refine z_iload X dX2_fillBranch_198 6 rfl ?_
    refine z_if_eq X dX2_fillBranch_200 rfl (fun hc200 => ?_) (fun hc200 => ?_)
    · have hf := ift hc200 hf
      exact z_weak [2, 3, 4, 5, 6, 7, 8, 9, 10, 11] rfl (z_Ch_fillBranch_j219 X hd l0 l1 l2 l3 l4 l5 l6 l7 l8 l9 h_2 _ hf E hx0 hk)
    · have hf := iff' hc200 hf
      refine z_lload X dX2_fillBranch_203 0 rfl ?_
      refine z_lconst0 X dX2_fillBranch_205 ?_
      refine z_l_eq X dX2_fillBranch_206 dX2_fillBranch_207 rfl (fun hc206 => ?_) (fun hc206 => ?_)
      · have hf := ift hc206 hf
        exact z_weak [2, 3, 4, 5, 6, 7, 8, 9, 10, 11] rfl (z_Ch_fillBranch_j219 X hd l0 l1 l2 l3 l4 l5 l6 l7 l8 l9 h_2 _ hf E hx0 hk)
      · have hf := iff' hc206 hf
        refine z_aload_n X dX2_fillBranch_210 2 rfl ?_
        refine z_iload_n X dX2_fillBranch_211 3 rfl ?_
        refine z_iload X dX2_fillBranch_212 1 rfl ?_
        refine z_lload X dX2_fillBranch_214 0 rfl ?_
        obtain ⟨r216, hr216, hf⟩ := obE hf
        refine y_V0 X cv_RX2_145 dX2_fillBranch_216 g5 (c_Ch_addGuest d (Nat.le_trans (by decide) hd) l0 l1 r129 r177 h_2 r216 hr216) (as := [(0, l1), (0, r129), (1, r177)]) rfl rfl (Nat.le_of_ble_eq_true rfl) z00 ?_
        exact z_weak [2, 3, 4, 5, 6, 7, 8, 9, 10, 11] rfl (z_Ch_fillBranch_j219 X hd l0 l1 l2 l3 l4 l5 l6 l7 l8 l9 r216 _ hf E hx0 hk)
