set_option maxHeartbeats 4000000 in
set_option maxRecDepth 100000 in
theorem cn_Al_new {l : Launch} {g : GP} (d : Nat) (hd : 1 ≤ d) (hlin : z_lin g) (l0 : Int) (n : Nat) (h : Hp) (y : Hp) (hf : Al_new l0 n h = some y) : zN l yX0_init cX0_init 1 d 0 (0) g n h [(2, l0)] (n + 0) y := by
  obtain ⟨d, rfl⟩ : ∃ k, d = k + 1 := ⟨d - 1, by omega⟩
  replace hd : 0 ≤ d := Nat.le_of_succ_le_succ hd
  refine z_startN (by decide) (Nat.le_of_ble_eq_true rfl) (fun x X hK hnm hcell hslot hs0 hao hl => ?_)
  show ZW g x 1 n h 0 0 0 [(0, (2, l0))] []
  unfold Al_new at hf
  refine z_aload_n X dX0_init_0 0 rfl ?_
  obtain ⟨g1, hf⟩ := gif hf
  refine z_obj X oi_RX0_1 oi_inst oi_code dX0_init_1 g1 (Nat.le_of_ble_eq_true rfl) ?_
  cases hf
  exact z_vret X hK dX0_init_4
set_option maxHeartbeats 4000000 in
set_option maxRecDepth 100000 in
theorem cn_By_new {l : Launch} {g : GP} (d : Nat) (hd : 1 ≤ d) (hlin : z_lin g) (l0 l1 : Int) (n : Nat) (h : Hp) (y : Hp) (hf : By_new l0 l1 n h = some y) : zN l yX1_init cX1_init 2 d 1 (0 + (max l1 0).toNat) g n h [(2, l0), (0, l1)] (n + 1) y := by
  obtain ⟨d, rfl⟩ : ∃ k, d = k + 1 := ⟨d - 1, by omega⟩
  replace hd : 0 ≤ d := Nat.le_of_succ_le_succ hd
  refine z_startN (by decide) (Nat.le_of_ble_eq_true rfl) (fun x X hK hnm hcell hslot hs0 hao hl => ?_)
  show ZW g x 2 n h 0 0 0 [(0, (2, l0)), (1, (0, l1))] []
  unfold By_new at hf
  refine z_aload_n X dX1_init_0 0 rfl ?_
  obtain ⟨g1, hf⟩ := gif hf
  refine z_obj X oi_RX1_3 oi_inst oi_code dX1_init_1 g1 (Nat.le_of_ble_eq_true rfl) ?_
  refine z_aload_n X dX1_init_4 0 rfl ?_
  refine z_iload_n X dX1_init_5 1 rfl ?_
  refine z_iconst X dX1_init_6 kc_0 ?_
  refine z_maxG X cm_RX1_9 dX1_init_7 (Nat.le_of_ble_eq_true rfl) (by rw [hcell]; decide) (Nat.zero_le _) ?_
  obtain ⟨g2, hf⟩ := gif hf
  refine z_newaB X hlin hs0 (n := n) rfl aw_byte dX1_init_10 g2.1 g2.2 (by rw [hcell]; decide) (by rw [hslot]; try first | decide | omega) ?_
  let h_1 : Hp := hnew h ((n : Nat) : Int)
  obtain ⟨g3, hf⟩ := gif hf
  refine z_putF X fl_RX1_15 ow_X1 hnm dX1_init_12 g3.1 g3.2 rfl (by decide) ?_
  let h_2 : Hp := hput h_1 l0 0 (((n : Nat) : Int))
  cases hf
  exact z_vret X hK dX1_init_15
set_option maxHeartbeats 4000000 in
set_option maxRecDepth 100000 in
theorem cn_Gr_new {l : Launch} {g : GP} (d : Nat) (hd : 1 ≤ d) (hlin : z_lin g) (l0 : Int) (n : Nat) (h : Hp) (y : Hp) (hf : Gr_new l0 n h = some y) : zN l yX4_init cX4_init 1 d 13 (461) g n h [(2, l0)] (n + 13) y := by
  obtain ⟨d, rfl⟩ : ∃ k, d = k + 1 := ⟨d - 1, by omega⟩
  replace hd : 0 ≤ d := Nat.le_of_succ_le_succ hd
  refine z_startN (by decide) (Nat.le_of_ble_eq_true rfl) (fun x X hK hnm hcell hslot hs0 hao hl => ?_)
  show ZW g x 1 n h 0 0 0 [(0, (2, l0))] []
  unfold Gr_new at hf
  refine z_aload_n X dX4_init_0 0 rfl ?_
  obtain ⟨g1, hf⟩ := gif hf
  refine z_obj X oi_RX4_3 oi_inst oi_code dX4_init_1 g1 (Nat.le_of_ble_eq_true rfl) ?_
  refine z_aload_n X dX4_init_4 0 rfl ?_
  refine z_bipush X dX4_init_5 kb_9 kc_9 ?_
  obtain ⟨g2, hf⟩ := gif hf
  refine z_newaI X hlin hs0 (n := n) rfl aw_int dX4_init_7 g2.1 g2.2 (by rw [hcell]; decide) (by rw [hslot]; try first | decide | omega) ?_
  let h_1 : Hp := hnew h ((n : Nat) : Int)
  obtain ⟨g3, hf⟩ := gif hf
  refine z_putF X fl_RX4_9 ow_X4 hnm dX4_init_9 g3.1 g3.2 rfl (by decide) ?_
  let h_2 : Hp := hput h_1 l0 6 (((n : Nat) : Int))
  refine z_aload_n X dX4_init_12 0 rfl ?_
  refine z_bipush X dX4_init_13 kb_40 kc_40 ?_
  obtain ⟨g4, hf⟩ := gif hf
  refine z_newaI X hlin hs0 (n := n + 1) rfl aw_int dX4_init_15 g4.1 g4.2 (by rw [hcell]; decide) (by rw [hslot]; try first | decide | omega) ?_
  let h_3 : Hp := hnew h_2 ((n + 1 : Nat) : Int)
  obtain ⟨g5, hf⟩ := gif hf
  refine z_putF X fl_RX4_15 ow_X4 hnm dX4_init_17 g5.1 g5.2 rfl (by decide) ?_
  let h_4 : Hp := hput h_3 l0 7 (((n + 1 : Nat) : Int))
  refine z_aload_n X dX4_init_20 0 rfl ?_
  refine z_bipush X dX4_init_21 kb_40 kc_40 ?_
  obtain ⟨g6, hf⟩ := gif hf
  refine z_newaI X hlin hs0 (n := n + 2) rfl aw_int dX4_init_23 g6.1 g6.2 (by rw [hcell]; decide) (by rw [hslot]; try first | decide | omega) ?_
  let h_5 : Hp := hnew h_4 ((n + 2 : Nat) : Int)
  obtain ⟨g7, hf⟩ := gif hf
  refine z_putF X fl_RX4_18 ow_X4 hnm dX4_init_25 g7.1 g7.2 rfl (by decide) ?_
  let h_6 : Hp := hput h_5 l0 8 (((n + 2 : Nat) : Int))
  refine z_aload_n X dX4_init_28 0 rfl ?_
  refine z_bipush X dX4_init_29 kb_40 kc_40 ?_
  obtain ⟨g8, hf⟩ := gif hf
  refine z_newaI X hlin hs0 (n := n + 3) rfl aw_int dX4_init_31 g8.1 g8.2 (by rw [hcell]; decide) (by rw [hslot]; try first | decide | omega) ?_
  let h_7 : Hp := hnew h_6 ((n + 3 : Nat) : Int)
  obtain ⟨g9, hf⟩ := gif hf
  refine z_putF X fl_RX4_21 ow_X4 hnm dX4_init_33 g9.1 g9.2 rfl (by decide) ?_
  let h_8 : Hp := hput h_7 l0 9 (((n + 3 : Nat) : Int))
  refine z_aload_n X dX4_init_36 0 rfl ?_
  refine z_bipush X dX4_init_37 kb_40 kc_40 ?_
  obtain ⟨g10, hf⟩ := gif hf
  refine z_newaI X hlin hs0 (n := n + 4) rfl aw_int dX4_init_39 g10.1 g10.2 (by rw [hcell]; decide) (by rw [hslot]; try first | decide | omega) ?_
  let h_9 : Hp := hnew h_8 ((n + 4 : Nat) : Int)
  obtain ⟨g11, hf⟩ := gif hf
  refine z_putF X fl_RX4_24 ow_X4 hnm dX4_init_41 g11.1 g11.2 rfl (by decide) ?_
  let h_10 : Hp := hput h_9 l0 10 (((n + 4 : Nat) : Int))
  refine z_aload_n X dX4_init_44 0 rfl ?_
  refine z_bipush X dX4_init_45 kb_40 kc_40 ?_
  obtain ⟨g12, hf⟩ := gif hf
  refine z_newaI X hlin hs0 (n := n + 5) rfl aw_int dX4_init_47 g12.1 g12.2 (by rw [hcell]; decide) (by rw [hslot]; try first | decide | omega) ?_
  let h_11 : Hp := hnew h_10 ((n + 5 : Nat) : Int)
  obtain ⟨g13, hf⟩ := gif hf
  refine z_putF X fl_RX4_27 ow_X4 hnm dX4_init_49 g13.1 g13.2 rfl (by decide) ?_
  let h_12 : Hp := hput h_11 l0 11 (((n + 5 : Nat) : Int))
  refine z_aload_n X dX4_init_52 0 rfl ?_
  refine z_bipush X dX4_init_53 kb_40 kc_40 ?_
  obtain ⟨g14, hf⟩ := gif hf
  refine z_newaI X hlin hs0 (n := n + 6) rfl aw_int dX4_init_55 g14.1 g14.2 (by rw [hcell]; decide) (by rw [hslot]; try first | decide | omega) ?_
  let h_13 : Hp := hnew h_12 ((n + 6 : Nat) : Int)
  obtain ⟨g15, hf⟩ := gif hf
  refine z_putF X fl_RX4_30 ow_X4 hnm dX4_init_57 g15.1 g15.2 rfl (by decide) ?_
  let h_14 : Hp := hput h_13 l0 12 (((n + 6 : Nat) : Int))
  refine z_aload_n X dX4_init_60 0 rfl ?_
  refine z_bipush X dX4_init_61 kb_40 kc_40 ?_
  obtain ⟨g16, hf⟩ := gif hf
  refine z_newaI X hlin hs0 (n := n + 7) rfl aw_int dX4_init_63 g16.1 g16.2 (by rw [hcell]; decide) (by rw [hslot]; try first | decide | omega) ?_
  let h_15 : Hp := hnew h_14 ((n + 7 : Nat) : Int)
  obtain ⟨g17, hf⟩ := gif hf
  refine z_putF X fl_RX4_33 ow_X4 hnm dX4_init_65 g17.1 g17.2 rfl (by decide) ?_
  let h_16 : Hp := hput h_15 l0 13 (((n + 7 : Nat) : Int))
  refine z_aload_n X dX4_init_68 0 rfl ?_
  refine z_bipush X dX4_init_69 kb_40 kc_40 ?_
  obtain ⟨g18, hf⟩ := gif hf
  refine z_newaI X hlin hs0 (n := n + 8) rfl aw_int dX4_init_71 g18.1 g18.2 (by rw [hcell]; decide) (by rw [hslot]; try first | decide | omega) ?_
  let h_17 : Hp := hnew h_16 ((n + 8 : Nat) : Int)
  obtain ⟨g19, hf⟩ := gif hf
  refine z_putF X fl_RX4_36 ow_X4 hnm dX4_init_73 g19.1 g19.2 rfl (by decide) ?_
  let h_18 : Hp := hput h_17 l0 14 (((n + 8 : Nat) : Int))
  refine z_aload_n X dX4_init_76 0 rfl ?_
  refine z_bipush X dX4_init_77 kb_40 kc_40 ?_
  obtain ⟨g20, hf⟩ := gif hf
  refine z_newaZ X hlin hs0 (n := n + 9) rfl aw_boolean dX4_init_79 g20.1 g20.2 (by rw [hcell]; decide) (by rw [hslot]; try first | decide | omega) ?_
  let h_19 : Hp := hnew h_18 ((n + 9 : Nat) : Int)
  obtain ⟨g21, hf⟩ := gif hf
  refine z_putF X fl_RX4_39 ow_X4 hnm dX4_init_81 g21.1 g21.2 rfl (by decide) ?_
  let h_20 : Hp := hput h_19 l0 15 (((n + 9 : Nat) : Int))
  refine z_aload_n X dX4_init_84 0 rfl ?_
  refine z_bipush X dX4_init_85 kb_40 kc_40 ?_
  obtain ⟨g22, hf⟩ := gif hf
  refine z_newaI X hlin hs0 (n := n + 10) rfl aw_int dX4_init_87 g22.1 g22.2 (by rw [hcell]; decide) (by rw [hslot]; try first | decide | omega) ?_
  let h_21 : Hp := hnew h_20 ((n + 10 : Nat) : Int)
  obtain ⟨g23, hf⟩ := gif hf
  refine z_putF X fl_RX4_43 ow_X4 hnm dX4_init_89 g23.1 g23.2 rfl (by decide) ?_
  let h_22 : Hp := hput h_21 l0 16 (((n + 10 : Nat) : Int))
  refine z_aload_n X dX4_init_92 0 rfl ?_
  refine z_bipush X dX4_init_93 kb_26 kc_26 ?_
  obtain ⟨g24, hf⟩ := gif hf
  refine z_newaI X hlin hs0 (n := n + 11) rfl aw_int dX4_init_95 g24.1 g24.2 (by rw [hcell]; decide) (by rw [hslot]; try first | decide | omega) ?_
  let h_23 : Hp := hnew h_22 ((n + 11 : Nat) : Int)
  obtain ⟨g25, hf⟩ := gif hf
  refine z_putF X fl_RX4_46 ow_X4 hnm dX4_init_97 g25.1 g25.2 rfl (by decide) ?_
  let h_24 : Hp := hput h_23 l0 17 (((n + 11 : Nat) : Int))
  refine z_aload_n X dX4_init_100 0 rfl ?_
  refine z_bipush X dX4_init_101 kb_26 kc_26 ?_
  obtain ⟨g26, hf⟩ := gif hf
  refine z_newaI X hlin hs0 (n := n + 12) rfl aw_int dX4_init_103 g26.1 g26.2 (by rw [hcell]; decide) (by rw [hslot]; try first | decide | omega) ?_
  let h_25 : Hp := hnew h_24 ((n + 12 : Nat) : Int)
  obtain ⟨g27, hf⟩ := gif hf
  refine z_putF X fl_RX4_49 ow_X4 hnm dX4_init_105 g27.1 g27.2 rfl (by decide) ?_
  let h_26 : Hp := hput h_25 l0 18 (((n + 12 : Nat) : Int))
  cases hf
  exact z_vret X hK dX4_init_108
set_option maxHeartbeats 4000000 in
set_option maxRecDepth 100000 in
theorem cn_GR_new {l : Launch} {g : GP} (d : Nat) (hd : 2 ≤ d) (hlin : z_lin g) (l0 : Int) (n : Nat) (h : Hp) (y : Hp) (hf : GR_new l0 n h = some y) : zN l yX5_init cX5_init 1 d 2 (2) g n h [(2, l0)] (n + 2) y := by
  obtain ⟨d, rfl⟩ : ∃ k, d = k + 1 := ⟨d - 1, by omega⟩
  replace hd : 1 ≤ d := Nat.le_of_succ_le_succ hd
  refine z_startN (by decide) (Nat.le_of_ble_eq_true rfl) (fun x X hK hnm hcell hslot hs0 hao hl => ?_)
  show ZW g x 1 n h 0 0 0 [(0, (2, l0))] []
  unfold GR_new at hf
  refine z_aload_n X dX5_init_0 0 rfl ?_
  obtain ⟨g1, hf⟩ := gif hf
  refine z_obj X oi_RX5_3 oi_inst oi_code dX5_init_1 g1 (Nat.le_of_ble_eq_true rfl) ?_
  refine z_aload_n X dX5_init_4 0 rfl ?_
  refine z_iconst X dX5_init_5 kc_0 ?_
  obtain ⟨g2, hf⟩ := gif hf
  refine z_put X fl_RX5_9 dX5_init_6 g2.1 g2.2 rfl (by decide) ?_
  let h_1 : Hp := hput h l0 0 0
  refine z_aload_n X dX5_init_9 0 rfl ?_
  refine z_iconst X dX5_init_10 kc_m1 ?_
  refine z_put X fl_RX5_15 dX5_init_11 g2.1 g2.2 rfl (by decide) ?_
  let h_2 : Hp := hput h_1 l0 1 ((-1))
  refine z_aload_n X dX5_init_14 0 rfl ?_
  obtain ⟨g3, hf⟩ := gif hf
  refine z_new X hlin hs0 (n := n) rfl nw_RX5_18 dX5_init_15 g3 (by rw [hcell]; decide) (by rw [hslot]; try first | decide | omega) ?_
  let h_3 : Hp := hnew h_2 ((n : Nat) : Int)
  refine z_dup X ne2 dX5_init_18 ?_
  refine z_iconst X dX5_init_19 kc_0 ?_
  obtain ⟨r20, hr20, hf⟩ := obE hf
  obtain ⟨g4, hf⟩ := gif hf
  refine z_callI X hlin hs0 (n := n + 1) rfl hao ci_RX5_20 dX5_init_20 g4 (cn_By_new d (Nat.le_trans (by decide) hd) hlin (((n : Nat) : Int)) 0 (n + 1) h_3 r20 hr20) (as := [(0, 0)]) rfl rfl (Nat.le_of_ble_eq_true rfl) ⟨by rw [hcell]; decide, by rw [hslot]; try first | decide | omega⟩ ?_
  obtain ⟨g5, hf⟩ := gif hf
  refine z_put X fl_RX5_23 dX5_init_23 g5.1 g5.2 rfl (by decide) ?_
  let h_4 : Hp := hput r20 l0 2 (((n : Nat) : Int))
  cases hf
  exact z_vret X hK dX5_init_26
set_option maxHeartbeats 4000000 in
set_option maxRecDepth 100000 in
theorem cn_Ch_new {l : Launch} {g : GP} (d : Nat) (hd : 2 ≤ d) (hlin : z_lin g) (l0 : Int) (n : Nat) (h : Hp) (y : Hp) (hf : Ch_new l0 n h = some y) : zN l yX2_init cX2_init 1 d 16 (44040) g n h [(2, l0)] (n + 16) y := by
  obtain ⟨d, rfl⟩ : ∃ k, d = k + 1 := ⟨d - 1, by omega⟩
  replace hd : 1 ≤ d := Nat.le_of_succ_le_succ hd
  refine z_startN (by decide) (Nat.le_of_ble_eq_true rfl) (fun x X hK hnm hcell hslot hs0 hao hl => ?_)
  show ZW g x 1 n h 0 0 0 [(0, (2, l0))] []
  unfold Ch_new at hf
  refine z_aload_n X dX2_init_0 0 rfl ?_
  obtain ⟨g1, hf⟩ := gif hf
  refine z_obj X oi_RX2_3 oi_inst oi_code dX2_init_1 g1 (Nat.le_of_ble_eq_true rfl) ?_
  refine z_aload_n X dX2_init_4 0 rfl ?_
  obtain ⟨g2, hf⟩ := gif hf
  refine z_new X hlin hs0 (n := n) rfl nw_RX2_9 dX2_init_5 g2 (by rw [hcell]; decide) (by rw [hslot]; try first | decide | omega) ?_
  let h_1 : Hp := hnew h ((n : Nat) : Int)
  refine z_dup X ne2 dX2_init_8 ?_
  obtain ⟨r9, hr9, hf⟩ := obE hf
  obtain ⟨g3, hf⟩ := gif hf
  refine z_callIN X hlin hs0 (n := n + 1) rfl hao ci_RX2_11 dX2_init_9 g3 (cn_Gr_new d (Nat.le_trans (by decide) hd) hlin (((n : Nat) : Int)) (n + 1) h_1 r9 hr9) (as := []) rfl rfl (Nat.le_of_ble_eq_true rfl) ⟨by rw [hcell]; decide, by rw [hslot]; try first | decide | omega⟩ ?_
  obtain ⟨g4, hf⟩ := gif hf
  refine z_put X fl_RX2_12 dX2_init_12 g4.1 g4.2 rfl (by decide) ?_
  let h_2 : Hp := hput r9 l0 0 (((n : Nat) : Int))
  refine z_aload_n X dX2_init_15 0 rfl ?_
  refine z_ldc X ki_RX2_18 kc_39600 dX2_init_16 ?_
  obtain ⟨g5, hf⟩ := gif hf
  refine z_newaJ X hlin hs0 (n := n + 14) rfl aw_long dX2_init_18 g5.1 g5.2 (by rw [hcell]; decide) (by rw [hslot]; try first | decide | omega) ?_
  let h_3 : Hp := hnew h_2 ((n + 14 : Nat) : Int)
  obtain ⟨g6, hf⟩ := gif hf
  refine z_putF X fl_RX2_19 ow_X2 hnm dX2_init_20 g6.1 g6.2 rfl (by decide) ?_
  let h_4 : Hp := hput h_3 l0 4 (((n + 14 : Nat) : Int))
  refine z_aload_n X dX2_init_23 0 rfl ?_
  refine z_sipush X dX2_init_24 ks_3960 kc_3960 ?_
  obtain ⟨g7, hf⟩ := gif hf
  refine z_newaJ X hlin hs0 (n := n + 15) rfl aw_long dX2_init_27 g7.1 g7.2 (by rw [hcell]; decide) (by rw [hslot]; try first | decide | omega) ?_
  let h_5 : Hp := hnew h_4 ((n + 15 : Nat) : Int)
  obtain ⟨g8, hf⟩ := gif hf
  refine z_putF X fl_RX2_23 ow_X2 hnm dX2_init_29 g8.1 g8.2 rfl (by decide) ?_
  let h_6 : Hp := hput h_5 l0 5 (((n + 15 : Nat) : Int))
  cases hf
  exact z_vret X hK dX2_init_32
set_option maxHeartbeats 4000000 in
set_option maxRecDepth 100000 in
theorem cn_Co_new {l : Launch} {g : GP} (d : Nat) (hd : 2 ≤ d) (hlin : z_lin g) (l0 l1 : Int) (n : Nat) (h : Hp) (y : Hp) (hf : Co_new l0 l1 n h = some y) : zN l yX3_init cX3_init 2 d 0 (0) g n h [(2, l0), (2, l1)] (n + 0) y := by
  obtain ⟨d, rfl⟩ : ∃ k, d = k + 1 := ⟨d - 1, by omega⟩
  replace hd : 1 ≤ d := Nat.le_of_succ_le_succ hd
  refine z_startN (by decide) (Nat.le_of_ble_eq_true rfl) (fun x X hK hnm hcell hslot hs0 hao hl => ?_)
  show ZW g x 2 n h 0 0 0 [(0, (2, l0)), (1, (2, l1))] []
  unfold Co_new at hf
  refine z_aload_n X dX3_init_0 0 rfl ?_
  obtain ⟨r1, hr1, hf⟩ := obE hf
  obtain ⟨g1, hf⟩ := gif hf
  refine z_callIN X hlin hs0 (n := n) rfl hao ci_RX3_3 dX3_init_1 g1 (cn_Al_new d (Nat.le_trans (by decide) hd) hlin l0 (n) h r1 hr1) (as := []) rfl rfl (Nat.le_of_ble_eq_true rfl) ⟨by rw [hcell]; decide, by rw [hslot]; try first | decide | omega⟩ ?_
  refine z_aload_n X dX3_init_4 0 rfl ?_
  refine z_aload_n X dX3_init_5 1 rfl ?_
  obtain ⟨g2, hf⟩ := gif hf
  refine z_putF X fl_RX3_9 ow_X3 hnm dX3_init_6 g2.1 g2.2 rfl (by decide) ?_
  let h_1 : Hp := hput r1 l0 0 l1
  cases hf
  exact z_vret X hK dX3_init_9
set_option maxHeartbeats 4000000 in
set_option maxRecDepth 100000 in
theorem cn_Su_new {l : Launch} {g : GP} (d : Nat) (hd : 2 ≤ d) (hlin : z_lin g) (l0 l1 : Int) (n : Nat) (h : Hp) (y : Hp) (hf : Su_new l0 l1 n h = some y) : zN l yX8_init cX8_init 2 d 0 (0) g n h [(2, l0), (2, l1)] (n + 0) y := by
  obtain ⟨d, rfl⟩ : ∃ k, d = k + 1 := ⟨d - 1, by omega⟩
  replace hd : 1 ≤ d := Nat.le_of_succ_le_succ hd
  refine z_startN (by decide) (Nat.le_of_ble_eq_true rfl) (fun x X hK hnm hcell hslot hs0 hao hl => ?_)
  show ZW g x 2 n h 0 0 0 [(0, (2, l0)), (1, (2, l1))] []
  unfold Su_new at hf
  refine z_aload_n X dX8_init_0 0 rfl ?_
  obtain ⟨r1, hr1, hf⟩ := obE hf
  obtain ⟨g1, hf⟩ := gif hf
  refine z_callIN X hlin hs0 (n := n) rfl hao ci_RX8_1 dX8_init_1 g1 (cn_Al_new d (Nat.le_trans (by decide) hd) hlin l0 (n) h r1 hr1) (as := []) rfl rfl (Nat.le_of_ble_eq_true rfl) ⟨by rw [hcell]; decide, by rw [hslot]; try first | decide | omega⟩ ?_
  refine z_aload_n X dX8_init_4 0 rfl ?_
  refine z_aload_n X dX8_init_5 1 rfl ?_
  obtain ⟨g2, hf⟩ := gif hf
  refine z_putF X fl_RX8_7 ow_X8 hnm dX8_init_6 g2.1 g2.2 rfl (by decide) ?_
  let h_1 : Hp := hput r1 l0 0 l1
  cases hf
  exact z_vret X hK dX8_init_9
set_option maxHeartbeats 4000000 in
set_option maxRecDepth 100000 in
theorem cn_Ms_new {l : Launch} {g : GP} (d : Nat) (hd : 2 ≤ d) (hlin : z_lin g) (l0 : Int) (n : Nat) (h : Hp) (y : Hp) (hf : Ms_new l0 n h = some y) : zN l yX6_init cX6_init 1 d 2 (272) g n h [(2, l0)] (n + 2) y := by
  obtain ⟨d, rfl⟩ : ∃ k, d = k + 1 := ⟨d - 1, by omega⟩
  replace hd : 1 ≤ d := Nat.le_of_succ_le_succ hd
  refine z_startN (by decide) (Nat.le_of_ble_eq_true rfl) (fun x X hK hnm hcell hslot hs0 hao hl => ?_)
  show ZW g x 1 n h 0 0 0 [(0, (2, l0))] []
  unfold Ms_new at hf
  refine z_aload_n X dX6_init_0 0 rfl ?_
  obtain ⟨r1, hr1, hf⟩ := obE hf
  obtain ⟨g1, hf⟩ := gif hf
  refine z_callIN X hlin hs0 (n := n) rfl hao ci_RX6_3 dX6_init_1 g1 (cn_Al_new d (Nat.le_trans (by decide) hd) hlin l0 (n) h r1 hr1) (as := []) rfl rfl (Nat.le_of_ble_eq_true rfl) ⟨by rw [hcell]; decide, by rw [hslot]; try first | decide | omega⟩ ?_
  refine z_aload_n X dX6_init_4 0 rfl ?_
  refine z_bipush X dX6_init_5 kb_64 kc_64 ?_
  obtain ⟨g2, hf⟩ := gif hf
  refine z_newaI X hlin hs0 (n := n) rfl aw_int dX6_init_7 g2.1 g2.2 (by rw [hcell]; decide) (by rw [hslot]; try first | decide | omega) ?_
  let h_1 : Hp := hnew r1 ((n : Nat) : Int)
  obtain ⟨g3, hf⟩ := gif hf
  refine z_putF X fl_RX6_11 ow_X6 hnm dX6_init_9 g3.1 g3.2 rfl (by decide) ?_
  let h_2 : Hp := hput h_1 l0 1 (((n : Nat) : Int))
  refine z_aload_n X dX6_init_12 0 rfl ?_
  refine z_sipush X dX6_init_13 ks_208 kc_208 ?_
  obtain ⟨g4, hf⟩ := gif hf
  refine z_newaJ X hlin hs0 (n := n + 1) rfl aw_long dX6_init_16 g4.1 g4.2 (by rw [hcell]; decide) (by rw [hslot]; try first | decide | omega) ?_
  let h_3 : Hp := hnew h_2 ((n + 1 : Nat) : Int)
  obtain ⟨g5, hf⟩ := gif hf
  refine z_putF X fl_RX6_15 ow_X6 hnm dX6_init_18 g5.1 g5.2 rfl (by decide) ?_
  let h_4 : Hp := hput h_3 l0 2 (((n + 1 : Nat) : Int))
  cases hf
  exact z_vret X hK dX6_init_21
set_option maxHeartbeats 4000000 in
set_option maxRecDepth 100000 in
theorem cn_Wy_new {l : Launch} {g : GP} (d : Nat) (hd : 2 ≤ d) (hlin : z_lin g) (l0 : Int) (n : Nat) (h : Hp) (y : Hp) (hf : Wy_new l0 n h = some y) : zN l yX9_init cX9_init 1 d 12 (5572) g n h [(2, l0)] (n + 12) y := by
  obtain ⟨d, rfl⟩ : ∃ k, d = k + 1 := ⟨d - 1, by omega⟩
  replace hd : 1 ≤ d := Nat.le_of_succ_le_succ hd
  refine z_startN (by decide) (Nat.le_of_ble_eq_true rfl) (fun x X hK hnm hcell hslot hs0 hao hl => ?_)
  show ZW g x 1 n h 0 0 0 [(0, (2, l0))] []
  unfold Wy_new at hf
  refine z_aload_n X dX9_init_0 0 rfl ?_
  obtain ⟨g1, hf⟩ := gif hf
  refine z_obj X oi_RX9_3 oi_inst oi_code dX9_init_1 g1 (Nat.le_of_ble_eq_true rfl) ?_
  refine z_aload_n X dX9_init_4 0 rfl ?_
  refine z_bipush X dX9_init_5 kb_48 kc_48 ?_
  obtain ⟨g2, hf⟩ := gif hf
  refine z_newaI X hlin hs0 (n := n) rfl aw_int dX9_init_7 g2.1 g2.2 (by rw [hcell]; decide) (by rw [hslot]; try first | decide | omega) ?_
  let h_1 : Hp := hnew h ((n : Nat) : Int)
  obtain ⟨g3, hf⟩ := gif hf
  refine z_putF X fl_RX9_9 ow_X9 hnm dX9_init_9 g3.1 g3.2 rfl (by decide) ?_
  let h_2 : Hp := hput h_1 l0 4 (((n : Nat) : Int))
  refine z_aload_n X dX9_init_12 0 rfl ?_
  refine z_bipush X dX9_init_13 kb_48 kc_48 ?_
  obtain ⟨g4, hf⟩ := gif hf
  refine z_newaI X hlin hs0 (n := n + 1) rfl aw_int dX9_init_15 g4.1 g4.2 (by rw [hcell]; decide) (by rw [hslot]; try first | decide | omega) ?_
  let h_3 : Hp := hnew h_2 ((n + 1 : Nat) : Int)
  obtain ⟨g5, hf⟩ := gif hf
  refine z_putF X fl_RX9_15 ow_X9 hnm dX9_init_17 g5.1 g5.2 rfl (by decide) ?_
  let h_4 : Hp := hput h_3 l0 5 (((n + 1 : Nat) : Int))
  refine z_aload_n X dX9_init_20 0 rfl ?_
  refine z_bipush X dX9_init_21 kb_48 kc_48 ?_
  obtain ⟨g6, hf⟩ := gif hf
  refine z_newaI X hlin hs0 (n := n + 2) rfl aw_int dX9_init_23 g6.1 g6.2 (by rw [hcell]; decide) (by rw [hslot]; try first | decide | omega) ?_
  let h_5 : Hp := hnew h_4 ((n + 2 : Nat) : Int)
  obtain ⟨g7, hf⟩ := gif hf
  refine z_putF X fl_RX9_18 ow_X9 hnm dX9_init_25 g7.1 g7.2 rfl (by decide) ?_
  let h_6 : Hp := hput h_5 l0 6 (((n + 2 : Nat) : Int))
  refine z_aload_n X dX9_init_28 0 rfl ?_
  refine z_bipush X dX9_init_29 kb_48 kc_48 ?_
  obtain ⟨g8, hf⟩ := gif hf
  refine z_newaI X hlin hs0 (n := n + 3) rfl aw_int dX9_init_31 g8.1 g8.2 (by rw [hcell]; decide) (by rw [hslot]; try first | decide | omega) ?_
  let h_7 : Hp := hnew h_6 ((n + 3 : Nat) : Int)
  obtain ⟨g9, hf⟩ := gif hf
  refine z_putF X fl_RX9_21 ow_X9 hnm dX9_init_33 g9.1 g9.2 rfl (by decide) ?_
  let h_8 : Hp := hput h_7 l0 7 (((n + 3 : Nat) : Int))
  refine z_aload_n X dX9_init_36 0 rfl ?_
  refine z_sipush X dX9_init_37 ks_576 kc_576 ?_
  obtain ⟨g10, hf⟩ := gif hf
  refine z_newaI X hlin hs0 (n := n + 4) rfl aw_int dX9_init_40 g10.1 g10.2 (by rw [hcell]; decide) (by rw [hslot]; try first | decide | omega) ?_
  let h_9 : Hp := hnew h_8 ((n + 4 : Nat) : Int)
  obtain ⟨g11, hf⟩ := gif hf
  refine z_putF X fl_RX9_24 ow_X9 hnm dX9_init_42 g11.1 g11.2 rfl (by decide) ?_
  let h_10 : Hp := hput h_9 l0 8 (((n + 4 : Nat) : Int))
  refine z_aload_n X dX9_init_45 0 rfl ?_
  obtain ⟨g12, hf⟩ := gif hf
  refine z_new X hlin hs0 (n := n + 5) rfl nw_RX9_27 dX9_init_46 g12 (by rw [hcell]; decide) (by rw [hslot]; try first | decide | omega) ?_
  let h_11 : Hp := hnew h_10 ((n + 5 : Nat) : Int)
  refine z_dup X ne2 dX9_init_49 ?_
  refine z_sipush X dX9_init_50 ks_2048 kc_2048 ?_
  obtain ⟨r53, hr53, hf⟩ := obE hf
  obtain ⟨g13, hf⟩ := gif hf
  refine z_callI X hlin hs0 (n := n + 6) rfl hao ci_RX9_29 dX9_init_53 g13 (cn_By_new d (Nat.le_trans (by decide) hd) hlin (((n + 5 : Nat) : Int)) 2048 (n + 6) h_11 r53 hr53) (as := [(0, 2048)]) rfl rfl (Nat.le_of_ble_eq_true rfl) ⟨by rw [hcell]; decide, by rw [hslot]; try first | decide | omega⟩ ?_
  obtain ⟨g14, hf⟩ := gif hf
  refine z_putF X fl_RX9_32 ow_X9 hnm dX9_init_56 g14.1 g14.2 rfl (by decide) ?_
  let h_12 : Hp := hput r53 l0 9 (((n + 5 : Nat) : Int))
  refine z_aload_n X dX9_init_59 0 rfl ?_
  obtain ⟨g15, hf⟩ := gif hf
  refine z_new X hlin hs0 (n := n + 7) rfl nw_RX9_27 dX9_init_60 g15 (by rw [hcell]; decide) (by rw [hslot]; try first | decide | omega) ?_
  let h_13 : Hp := hnew h_12 ((n + 7 : Nat) : Int)
  refine z_dup X ne2 dX9_init_63 ?_
  refine z_sipush X dX9_init_64 ks_576 kc_576 ?_
  obtain ⟨r67, hr67, hf⟩ := obE hf
  obtain ⟨g16, hf⟩ := gif hf
  refine z_callI X hlin hs0 (n := n + 8) rfl hao ci_RX9_29 dX9_init_67 g16 (cn_By_new d (Nat.le_trans (by decide) hd) hlin (((n + 7 : Nat) : Int)) 576 (n + 8) h_13 r67 hr67) (as := [(0, 576)]) rfl rfl (Nat.le_of_ble_eq_true rfl) ⟨by rw [hcell]; decide, by rw [hslot]; try first | decide | omega⟩ ?_
  obtain ⟨g17, hf⟩ := gif hf
  refine z_putF X fl_RX9_36 ow_X9 hnm dX9_init_70 g17.1 g17.2 rfl (by decide) ?_
  let h_14 : Hp := hput r67 l0 10 (((n + 7 : Nat) : Int))
  refine z_aload_n X dX9_init_73 0 rfl ?_
  refine z_sipush X dX9_init_74 ks_576 kc_576 ?_
  obtain ⟨g18, hf⟩ := gif hf
  refine z_newaI X hlin hs0 (n := n + 9) rfl aw_int dX9_init_77 g18.1 g18.2 (by rw [hcell]; decide) (by rw [hslot]; try first | decide | omega) ?_
  let h_15 : Hp := hnew h_14 ((n + 9 : Nat) : Int)
  obtain ⟨g19, hf⟩ := gif hf
  refine z_putF X fl_RX9_39 ow_X9 hnm dX9_init_79 g19.1 g19.2 rfl (by decide) ?_
  let h_16 : Hp := hput h_15 l0 11 (((n + 9 : Nat) : Int))
  refine z_aload_n X dX9_init_82 0 rfl ?_
  refine z_sipush X dX9_init_83 ks_576 kc_576 ?_
  obtain ⟨g20, hf⟩ := gif hf
  refine z_newaI X hlin hs0 (n := n + 10) rfl aw_int dX9_init_86 g20.1 g20.2 (by rw [hcell]; decide) (by rw [hslot]; try first | decide | omega) ?_
  let h_17 : Hp := hnew h_16 ((n + 10 : Nat) : Int)
  obtain ⟨g21, hf⟩ := gif hf
  refine z_putF X fl_RX9_42 ow_X9 hnm dX9_init_88 g21.1 g21.2 rfl (by decide) ?_
  let h_18 : Hp := hput h_17 l0 12 (((n + 10 : Nat) : Int))
  refine z_aload_n X dX9_init_91 0 rfl ?_
  refine z_sipush X dX9_init_92 ks_1024 kc_1024 ?_
  obtain ⟨g22, hf⟩ := gif hf
  refine z_newaI X hlin hs0 (n := n + 11) rfl aw_int dX9_init_95 g22.1 g22.2 (by rw [hcell]; decide) (by rw [hslot]; try first | decide | omega) ?_
  let h_19 : Hp := hnew h_18 ((n + 11 : Nat) : Int)
  obtain ⟨g23, hf⟩ := gif hf
  refine z_putF X fl_RX9_45 ow_X9 hnm dX9_init_97 g23.1 g23.2 rfl (by decide) ?_
  let h_20 : Hp := hput h_19 l0 13 (((n + 11 : Nat) : Int))
  cases hf
  exact z_vret X hK dX9_init_100
set_option maxHeartbeats 4000000 in
set_option maxRecDepth 100000 in
theorem cn_WF_new {l : Launch} {g : GP} (d : Nat) (hd : 1 ≤ d) (hlin : z_lin g) (l0 : Int) (n : Nat) (h : Hp) (y : Hp) (hf : WF_new l0 n h = some y) : zN l yX10_init cX10_init 1 d 3 (3072) g n h [(2, l0)] (n + 3) y := by
  obtain ⟨d, rfl⟩ : ∃ k, d = k + 1 := ⟨d - 1, by omega⟩
  replace hd : 0 ≤ d := Nat.le_of_succ_le_succ hd
  refine z_startN (by decide) (Nat.le_of_ble_eq_true rfl) (fun x X hK hnm hcell hslot hs0 hao hl => ?_)
  show ZW g x 1 n h 0 0 0 [(0, (2, l0))] []
  unfold WF_new at hf
  refine z_aload_n X dX10_init_0 0 rfl ?_
  obtain ⟨g1, hf⟩ := gif hf
  refine z_obj X oi_RX10_3 oi_inst oi_code dX10_init_1 g1 (Nat.le_of_ble_eq_true rfl) ?_
  refine z_aload_n X dX10_init_4 0 rfl ?_
  refine z_sipush X dX10_init_5 ks_1024 kc_1024 ?_
  obtain ⟨g2, hf⟩ := gif hf
  refine z_newaI X hlin hs0 (n := n) rfl aw_int dX10_init_8 g2.1 g2.2 (by rw [hcell]; decide) (by rw [hslot]; try first | decide | omega) ?_
  let h_1 : Hp := hnew h ((n : Nat) : Int)
  obtain ⟨g3, hf⟩ := gif hf
  refine z_putF X fl_RX10_9 ow_X10 hnm dX10_init_10 g3.1 g3.2 rfl (by decide) ?_
  let h_2 : Hp := hput h_1 l0 4 (((n : Nat) : Int))
  refine z_aload_n X dX10_init_13 0 rfl ?_
  refine z_sipush X dX10_init_14 ks_1024 kc_1024 ?_
  obtain ⟨g4, hf⟩ := gif hf
  refine z_newaI X hlin hs0 (n := n + 1) rfl aw_int dX10_init_17 g4.1 g4.2 (by rw [hcell]; decide) (by rw [hslot]; try first | decide | omega) ?_
  let h_3 : Hp := hnew h_2 ((n + 1 : Nat) : Int)
  obtain ⟨g5, hf⟩ := gif hf
  refine z_putF X fl_RX10_15 ow_X10 hnm dX10_init_19 g5.1 g5.2 rfl (by decide) ?_
  let h_4 : Hp := hput h_3 l0 5 (((n + 1 : Nat) : Int))
  refine z_aload_n X dX10_init_22 0 rfl ?_
  refine z_sipush X dX10_init_23 ks_1024 kc_1024 ?_
  obtain ⟨g6, hf⟩ := gif hf
  refine z_newaJ X hlin hs0 (n := n + 2) rfl aw_long dX10_init_26 g6.1 g6.2 (by rw [hcell]; decide) (by rw [hslot]; try first | decide | omega) ?_
  let h_5 : Hp := hnew h_4 ((n + 2 : Nat) : Int)
  obtain ⟨g7, hf⟩ := gif hf
  refine z_putF X fl_RX10_18 ow_X10 hnm dX10_init_28 g7.1 g7.2 rfl (by decide) ?_
  let h_6 : Hp := hput h_5 l0 6 (((n + 2 : Nat) : Int))
  cases hf
  exact z_vret X hK dX10_init_31
set_option maxHeartbeats 4000000 in
set_option maxRecDepth 100000 in
theorem cn_SR_new {l : Launch} {g : GP} (d : Nat) (hd : 2 ≤ d) (hlin : z_lin g) (l0 : Int) (n : Nat) (h : Hp) (y : Hp) (hf : SR_new l0 n h = some y) : zN l yX7_init cX7_init 1 d 5 (122) g n h [(2, l0)] (n + 5) y := by
  obtain ⟨d, rfl⟩ : ∃ k, d = k + 1 := ⟨d - 1, by omega⟩
  replace hd : 1 ≤ d := Nat.le_of_succ_le_succ hd
  refine z_startN (by decide) (Nat.le_of_ble_eq_true rfl) (fun x X hK hnm hcell hslot hs0 hao hl => ?_)
  show ZW g x 1 n h 0 0 0 [(0, (2, l0))] []
  unfold SR_new at hf
  refine z_aload_n X dX7_init_0 0 rfl ?_
  obtain ⟨g1, hf⟩ := gif hf
  refine z_obj X oi_RX7_3 oi_inst oi_code dX7_init_1 g1 (Nat.le_of_ble_eq_true rfl) ?_
  refine z_aload_n X dX7_init_4 0 rfl ?_
  obtain ⟨g2, hf⟩ := gif hf
  refine z_new X hlin hs0 (n := n) rfl nw_RX7_9 dX7_init_5 g2 (by rw [hcell]; decide) (by rw [hslot]; try first | decide | omega) ?_
  let h_1 : Hp := hnew h ((n : Nat) : Int)
  refine z_dup X ne2 dX7_init_8 ?_
  refine z_iconst X dX7_init_9 kc_0 ?_
  obtain ⟨r10, hr10, hf⟩ := obE hf
  obtain ⟨g3, hf⟩ := gif hf
  refine z_callI X hlin hs0 (n := n + 1) rfl hao ci_RX7_11 dX7_init_10 g3 (cn_By_new d (Nat.le_trans (by decide) hd) hlin (((n : Nat) : Int)) 0 (n + 1) h_1 r10 hr10) (as := [(0, 0)]) rfl rfl (Nat.le_of_ble_eq_true rfl) ⟨by rw [hcell]; decide, by rw [hslot]; try first | decide | omega⟩ ?_
  obtain ⟨g4, hf⟩ := gif hf
  refine z_put X fl_RX7_14 dX7_init_13 g4.1 g4.2 rfl (by decide) ?_
  let h_2 : Hp := hput r10 l0 0 (((n : Nat) : Int))
  refine z_aload_n X dX7_init_16 0 rfl ?_
  refine z_bipush X dX7_init_17 kb_40 kc_40 ?_
  obtain ⟨g5, hf⟩ := gif hf
  refine z_newaI X hlin hs0 (n := n + 2) rfl aw_int dX7_init_19 g5.1 g5.2 (by rw [hcell]; decide) (by rw [hslot]; try first | decide | omega) ?_
  let h_3 : Hp := hnew h_2 ((n + 2 : Nat) : Int)
  obtain ⟨g6, hf⟩ := gif hf
  refine z_putF X fl_RX7_20 ow_X7 hnm dX7_init_21 g6.1 g6.2 rfl (by decide) ?_
  let h_4 : Hp := hput h_3 l0 5 (((n + 2 : Nat) : Int))
  refine z_aload_n X dX7_init_24 0 rfl ?_
  refine z_bipush X dX7_init_25 kb_40 kc_40 ?_
  obtain ⟨g7, hf⟩ := gif hf
  refine z_newaI X hlin hs0 (n := n + 3) rfl aw_int dX7_init_27 g7.1 g7.2 (by rw [hcell]; decide) (by rw [hslot]; try first | decide | omega) ?_
  let h_5 : Hp := hnew h_4 ((n + 3 : Nat) : Int)
  obtain ⟨g8, hf⟩ := gif hf
  refine z_putF X fl_RX7_24 ow_X7 hnm dX7_init_29 g8.1 g8.2 rfl (by decide) ?_
  let h_6 : Hp := hput h_5 l0 6 (((n + 3 : Nat) : Int))
  refine z_aload_n X dX7_init_32 0 rfl ?_
  refine z_bipush X dX7_init_33 kb_40 kc_40 ?_
  obtain ⟨g9, hf⟩ := gif hf
  refine z_newaI X hlin hs0 (n := n + 4) rfl aw_int dX7_init_35 g9.1 g9.2 (by rw [hcell]; decide) (by rw [hslot]; try first | decide | omega) ?_
  let h_7 : Hp := hnew h_6 ((n + 4 : Nat) : Int)
  obtain ⟨g10, hf⟩ := gif hf
  refine z_putF X fl_RX7_27 ow_X7 hnm dX7_init_37 g10.1 g10.2 rfl (by decide) ?_
  let h_8 : Hp := hput h_7 l0 7 (((n + 4 : Nat) : Int))
  cases hf
  exact z_vret X hK dX7_init_40
set_option maxHeartbeats 4000000 in
set_option maxRecDepth 100000 in
theorem cn_X_new {l : Launch} {g : GP} (d : Nat) (hd : 3 ≤ d) (hlin : z_lin g) (l0 : Int) (n : Nat) (h : Hp) (y : Hp) (hf : X_new l0 n h = some y) : zN l yX11_init cX11_init 1 d 120 (107739) g n h [(2, l0)] (n + 120) y := by
  obtain ⟨d, rfl⟩ : ∃ k, d = k + 1 := ⟨d - 1, by omega⟩
  replace hd : 2 ≤ d := Nat.le_of_succ_le_succ hd
  refine z_startN (by decide) (Nat.le_of_ble_eq_true rfl) (fun x X hK hnm hcell hslot hs0 hao hl => ?_)
  show ZW g x 1 n h 0 0 0 [(0, (2, l0))] []
  unfold X_new at hf
  refine z_aload_n X dX11_init_0 0 rfl ?_
  obtain ⟨g1, hf⟩ := gif hf
  refine z_obj X oi_RX11_3 oi_inst oi_code dX11_init_1 g1 (Nat.le_of_ble_eq_true rfl) ?_
  refine z_aload_n X dX11_init_4 0 rfl ?_
  obtain ⟨g2, hf⟩ := gif hf
  refine z_new X hlin hs0 (n := n) rfl nw_RX11_9 dX11_init_5 g2 (by rw [hcell]; decide) (by rw [hslot]; try first | decide | omega) ?_
  let h_1 : Hp := hnew h ((n : Nat) : Int)
  refine z_dup X ne2 dX11_init_8 ?_
  refine z_sipush X dX11_init_9 ks_400 kc_400 ?_
  obtain ⟨r12, hr12, hf⟩ := obE hf
  obtain ⟨g3, hf⟩ := gif hf
  refine z_callI X hlin hs0 (n := n + 1) rfl hao ci_RX11_11 dX11_init_12 g3 (cn_By_new d (Nat.le_trans (by decide) hd) hlin (((n : Nat) : Int)) 400 (n + 1) h_1 r12 hr12) (as := [(0, 400)]) rfl rfl (Nat.le_of_ble_eq_true rfl) ⟨by rw [hcell]; decide, by rw [hslot]; try first | decide | omega⟩ ?_
  obtain ⟨g4, hf⟩ := gif hf
  refine z_putF X fl_RX11_14 ow_X11 hnm dX11_init_15 g4.1 g4.2 rfl (by decide) ?_
  let h_2 : Hp := hput r12 l0 0 (((n : Nat) : Int))
  refine z_aload_n X dX11_init_18 0 rfl ?_
  obtain ⟨g5, hf⟩ := gif hf
  refine z_new X hlin hs0 (n := n + 2) rfl nw_RX11_9 dX11_init_19 g5 (by rw [hcell]; decide) (by rw [hslot]; try first | decide | omega) ?_
  let h_3 : Hp := hnew h_2 ((n + 2 : Nat) : Int)
  refine z_dup X ne2 dX11_init_22 ?_
  refine z_sipush X dX11_init_23 ks_2048 kc_2048 ?_
  obtain ⟨r26, hr26, hf⟩ := obE hf
  obtain ⟨g6, hf⟩ := gif hf
  refine z_callI X hlin hs0 (n := n + 3) rfl hao ci_RX11_11 dX11_init_26 g6 (cn_By_new d (Nat.le_trans (by decide) hd) hlin (((n + 2 : Nat) : Int)) 2048 (n + 3) h_3 r26 hr26) (as := [(0, 2048)]) rfl rfl (Nat.le_of_ble_eq_true rfl) ⟨by rw [hcell]; decide, by rw [hslot]; try first | decide | omega⟩ ?_
  obtain ⟨g7, hf⟩ := gif hf
  refine z_putF X fl_RX11_18 ow_X11 hnm dX11_init_29 g7.1 g7.2 rfl (by decide) ?_
  let h_4 : Hp := hput r26 l0 1 (((n + 2 : Nat) : Int))
  refine z_aload_n X dX11_init_32 0 rfl ?_
  obtain ⟨g8, hf⟩ := gif hf
  refine z_new X hlin hs0 (n := n + 4) rfl nw_RX11_9 dX11_init_33 g8 (by rw [hcell]; decide) (by rw [hslot]; try first | decide | omega) ?_
  let h_5 : Hp := hnew h_4 ((n + 4 : Nat) : Int)
  refine z_dup X ne2 dX11_init_36 ?_
  refine z_bipush X dX11_init_37 kb_8 kc_8 ?_
  obtain ⟨r39, hr39, hf⟩ := obE hf
  obtain ⟨g9, hf⟩ := gif hf
  refine z_callI X hlin hs0 (n := n + 5) rfl hao ci_RX11_11 dX11_init_39 g9 (cn_By_new d (Nat.le_trans (by decide) hd) hlin (((n + 4 : Nat) : Int)) 8 (n + 5) h_5 r39 hr39) (as := [(0, 8)]) rfl rfl (Nat.le_of_ble_eq_true rfl) ⟨by rw [hcell]; decide, by rw [hslot]; try first | decide | omega⟩ ?_
  obtain ⟨g10, hf⟩ := gif hf
  refine z_putF X fl_RX11_21 ow_X11 hnm dX11_init_42 g10.1 g10.2 rfl (by decide) ?_
  let h_6 : Hp := hput r39 l0 2 (((n + 4 : Nat) : Int))
  refine z_aload_n X dX11_init_45 0 rfl ?_
  obtain ⟨g11, hf⟩ := gif hf
  refine z_new X hlin hs0 (n := n + 6) rfl nw_RX11_24 dX11_init_46 g11 (by rw [hcell]; decide) (by rw [hslot]; try first | decide | omega) ?_
  let h_7 : Hp := hnew h_6 ((n + 6 : Nat) : Int)
  refine z_dup X ne2 dX11_init_49 ?_
  obtain ⟨r50, hr50, hf⟩ := obE hf
  obtain ⟨g12, hf⟩ := gif hf
  refine z_callIN X hlin hs0 (n := n + 7) rfl hao ci_RX11_26 dX11_init_50 g12 (cn_GR_new d (Nat.le_trans (by decide) hd) hlin (((n + 6 : Nat) : Int)) (n + 7) h_7 r50 hr50) (as := []) rfl rfl (Nat.le_of_ble_eq_true rfl) ⟨by rw [hcell]; decide, by rw [hslot]; try first | decide | omega⟩ ?_
  obtain ⟨g13, hf⟩ := gif hf
  refine z_putF X fl_RX11_27 ow_X11 hnm dX11_init_53 g13.1 g13.2 rfl (by decide) ?_
  let h_8 : Hp := hput r50 l0 3 (((n + 6 : Nat) : Int))
  refine z_aload_n X dX11_init_56 0 rfl ?_
  obtain ⟨g14, hf⟩ := gif hf
  refine z_new X hlin hs0 (n := n + 9) rfl nw_RX11_31 dX11_init_57 g14 (by rw [hcell]; decide) (by rw [hslot]; try first | decide | omega) ?_
  let h_9 : Hp := hnew h_8 ((n + 9 : Nat) : Int)
  refine z_dup X ne2 dX11_init_60 ?_
  obtain ⟨r61, hr61, hf⟩ := obE hf
  obtain ⟨g15, hf⟩ := gif hf
  refine z_callIN X hlin hs0 (n := n + 10) rfl hao ci_RX11_33 dX11_init_61 g15 (cn_SR_new d (Nat.le_trans (by decide) hd) hlin (((n + 9 : Nat) : Int)) (n + 10) h_9 r61 hr61) (as := []) rfl rfl (Nat.le_of_ble_eq_true rfl) ⟨by rw [hcell]; decide, by rw [hslot]; try first | decide | omega⟩ ?_
  obtain ⟨g16, hf⟩ := gif hf
  refine z_putF X fl_RX11_34 ow_X11 hnm dX11_init_64 g16.1 g16.2 rfl (by decide) ?_
  let h_10 : Hp := hput r61 l0 4 (((n + 9 : Nat) : Int))
  refine z_aload_n X dX11_init_67 0 rfl ?_
  obtain ⟨g17, hf⟩ := gif hf
  refine z_new X hlin hs0 (n := n + 15) rfl nw_RX11_38 dX11_init_68 g17 (by rw [hcell]; decide) (by rw [hslot]; try first | decide | omega) ?_
  let h_11 : Hp := hnew h_10 ((n + 15 : Nat) : Int)
  refine z_dup X ne2 dX11_init_71 ?_
  refine z_aload_n X dX11_init_72 0 rfl ?_
  obtain ⟨g18, hf⟩ := gif hf
  refine z_get X fl_RX11_21 dX11_init_73 g18.1 g18.2 ?_
  obtain ⟨r76, hr76, hf⟩ := obE hf
  obtain ⟨g19, hf⟩ := gif hf
  refine z_callI X hlin hs0 (n := n + 16) rfl hao ci_RX11_40 dX11_init_76 g19 (cn_Co_new d (Nat.le_trans (by decide) hd) hlin (((n + 15 : Nat) : Int)) (h_11 l0 2) (n + 16) h_11 r76 hr76) (as := [(2, h_11 l0 2)]) rfl rfl (Nat.le_of_ble_eq_true rfl) ⟨by rw [hcell]; decide, by rw [hslot]; try first | decide | omega⟩ ?_
  refine z_putF X fl_RX11_43 ow_X11 hnm dX11_init_79 g18.1 g18.2 rfl (by decide) ?_
  let h_12 : Hp := hput r76 l0 5 (((n + 15 : Nat) : Int))
  refine z_aload_n X dX11_init_82 0 rfl ?_
  obtain ⟨g20, hf⟩ := gif hf
  refine z_new X hlin hs0 (n := n + 16) rfl nw_RX11_47 dX11_init_83 g20 (by rw [hcell]; decide) (by rw [hslot]; try first | decide | omega) ?_
  let h_13 : Hp := hnew h_12 ((n + 16 : Nat) : Int)
  refine z_dup X ne2 dX11_init_86 ?_
  refine z_aload_n X dX11_init_87 0 rfl ?_
  obtain ⟨g21, hf⟩ := gif hf
  refine z_get X fl_RX11_21 dX11_init_88 g21.1 g21.2 ?_
  obtain ⟨r91, hr91, hf⟩ := obE hf
  obtain ⟨g22, hf⟩ := gif hf
  refine z_callI X hlin hs0 (n := n + 17) rfl hao ci_RX11_49 dX11_init_91 g22 (cn_Su_new d (Nat.le_trans (by decide) hd) hlin (((n + 16 : Nat) : Int)) (h_13 l0 2) (n + 17) h_13 r91 hr91) (as := [(2, h_13 l0 2)]) rfl rfl (Nat.le_of_ble_eq_true rfl) ⟨by rw [hcell]; decide, by rw [hslot]; try first | decide | omega⟩ ?_
  refine z_putF X fl_RX11_50 ow_X11 hnm dX11_init_94 g21.1 g21.2 rfl (by decide) ?_
  let h_14 : Hp := hput r91 l0 6 (((n + 16 : Nat) : Int))
  refine z_aload_n X dX11_init_97 0 rfl ?_
  obtain ⟨g23, hf⟩ := gif hf
  refine z_new X hlin hs0 (n := n + 17) rfl nw_RX11_54 dX11_init_98 g23 (by rw [hcell]; decide) (by rw [hslot]; try first | decide | omega) ?_
  let h_15 : Hp := hnew h_14 ((n + 17 : Nat) : Int)
  refine z_dup X ne2 dX11_init_101 ?_
  obtain ⟨r102, hr102, hf⟩ := obE hf
  obtain ⟨g24, hf⟩ := gif hf
  refine z_callIN X hlin hs0 (n := n + 18) rfl hao ci_RX11_56 dX11_init_102 g24 (cn_Ms_new d (Nat.le_trans (by decide) hd) hlin (((n + 17 : Nat) : Int)) (n + 18) h_15 r102 hr102) (as := []) rfl rfl (Nat.le_of_ble_eq_true rfl) ⟨by rw [hcell]; decide, by rw [hslot]; try first | decide | omega⟩ ?_
  obtain ⟨g25, hf⟩ := gif hf
  refine z_putF X fl_RX11_57 ow_X11 hnm dX11_init_105 g25.1 g25.2 rfl (by decide) ?_
  let h_16 : Hp := hput r102 l0 7 (((n + 17 : Nat) : Int))
  refine z_aload_n X dX11_init_108 0 rfl ?_
  obtain ⟨g26, hf⟩ := gif hf
  refine z_new X hlin hs0 (n := n + 20) rfl nw_RX11_61 dX11_init_109 g26 (by rw [hcell]; decide) (by rw [hslot]; try first | decide | omega) ?_
  let h_17 : Hp := hnew h_16 ((n + 20 : Nat) : Int)
  refine z_dup X ne2 dX11_init_112 ?_
  obtain ⟨r113, hr113, hf⟩ := obE hf
  obtain ⟨g27, hf⟩ := gif hf
  refine z_callIN X hlin hs0 (n := n + 21) rfl hao ci_RX11_63 dX11_init_113 g27 (cn_Ch_new d (Nat.le_trans (by decide) hd) hlin (((n + 20 : Nat) : Int)) (n + 21) h_17 r113 hr113) (as := []) rfl rfl (Nat.le_of_ble_eq_true rfl) ⟨by rw [hcell]; decide, by rw [hslot]; try first | decide | omega⟩ ?_
  obtain ⟨g28, hf⟩ := gif hf
  refine z_putF X fl_RX11_64 ow_X11 hnm dX11_init_116 g28.1 g28.2 rfl (by decide) ?_
  let h_18 : Hp := hput r113 l0 8 (((n + 20 : Nat) : Int))
  refine z_aload_n X dX11_init_119 0 rfl ?_
  obtain ⟨g29, hf⟩ := gif hf
  refine z_new X hlin hs0 (n := n + 37) rfl nw_RX11_61 dX11_init_120 g29 (by rw [hcell]; decide) (by rw [hslot]; try first | decide | omega) ?_
  let h_19 : Hp := hnew h_18 ((n + 37 : Nat) : Int)
  refine z_dup X ne2 dX11_init_123 ?_
  obtain ⟨r124, hr124, hf⟩ := obE hf
  obtain ⟨g30, hf⟩ := gif hf
  refine z_callIN X hlin hs0 (n := n + 38) rfl hao ci_RX11_63 dX11_init_124 g30 (cn_Ch_new d (Nat.le_trans (by decide) hd) hlin (((n + 37 : Nat) : Int)) (n + 38) h_19 r124 hr124) (as := []) rfl rfl (Nat.le_of_ble_eq_true rfl) ⟨by rw [hcell]; decide, by rw [hslot]; try first | decide | omega⟩ ?_
  obtain ⟨g31, hf⟩ := gif hf
  refine z_putF X fl_RX11_68 ow_X11 hnm dX11_init_127 g31.1 g31.2 rfl (by decide) ?_
  let h_20 : Hp := hput r124 l0 9 (((n + 37 : Nat) : Int))
  refine z_aload_n X dX11_init_130 0 rfl ?_
  obtain ⟨g32, hf⟩ := gif hf
  refine z_new X hlin hs0 (n := n + 54) rfl nw_RX11_71 dX11_init_131 g32 (by rw [hcell]; decide) (by rw [hslot]; try first | decide | omega) ?_
  let h_21 : Hp := hnew h_20 ((n + 54 : Nat) : Int)
  refine z_dup X ne2 dX11_init_134 ?_
  obtain ⟨r135, hr135, hf⟩ := obE hf
  obtain ⟨g33, hf⟩ := gif hf
  refine z_callIN X hlin hs0 (n := n + 55) rfl hao ci_RX11_73 dX11_init_135 g33 (cn_WF_new d (Nat.le_trans (by decide) hd) hlin (((n + 54 : Nat) : Int)) (n + 55) h_21 r135 hr135) (as := []) rfl rfl (Nat.le_of_ble_eq_true rfl) ⟨by rw [hcell]; decide, by rw [hslot]; try first | decide | omega⟩ ?_
  obtain ⟨g34, hf⟩ := gif hf
  refine z_putF X fl_RX11_74 ow_X11 hnm dX11_init_138 g34.1 g34.2 rfl (by decide) ?_
  let h_22 : Hp := hput r135 l0 10 (((n + 54 : Nat) : Int))
  refine z_aload_n X dX11_init_141 0 rfl ?_
  obtain ⟨g35, hf⟩ := gif hf
  refine z_new X hlin hs0 (n := n + 58) rfl nw_RX11_78 dX11_init_142 g35 (by rw [hcell]; decide) (by rw [hslot]; try first | decide | omega) ?_
  let h_23 : Hp := hnew h_22 ((n + 58 : Nat) : Int)
  refine z_dup X ne2 dX11_init_145 ?_
  obtain ⟨r146, hr146, hf⟩ := obE hf
  obtain ⟨g36, hf⟩ := gif hf
  refine z_callIN X hlin hs0 (n := n + 59) rfl hao ci_RX11_80 dX11_init_146 g36 (cn_Wy_new d (Nat.le_trans (by decide) hd) hlin (((n + 58 : Nat) : Int)) (n + 59) h_23 r146 hr146) (as := []) rfl rfl (Nat.le_of_ble_eq_true rfl) ⟨by rw [hcell]; decide, by rw [hslot]; try first | decide | omega⟩ ?_
  obtain ⟨g37, hf⟩ := gif hf
  refine z_putF X fl_RX11_81 ow_X11 hnm dX11_init_149 g37.1 g37.2 rfl (by decide) ?_
  let h_24 : Hp := hput r146 l0 11 (((n + 58 : Nat) : Int))
  refine z_aload_n X dX11_init_152 0 rfl ?_
  obtain ⟨g38, hf⟩ := gif hf
  refine z_new X hlin hs0 (n := n + 71) rfl nw_RX11_78 dX11_init_153 g38 (by rw [hcell]; decide) (by rw [hslot]; try first | decide | omega) ?_
  let h_25 : Hp := hnew h_24 ((n + 71 : Nat) : Int)
  refine z_dup X ne2 dX11_init_156 ?_
  obtain ⟨r157, hr157, hf⟩ := obE hf
  obtain ⟨g39, hf⟩ := gif hf
  refine z_callIN X hlin hs0 (n := n + 72) rfl hao ci_RX11_80 dX11_init_157 g39 (cn_Wy_new d (Nat.le_trans (by decide) hd) hlin (((n + 71 : Nat) : Int)) (n + 72) h_25 r157 hr157) (as := []) rfl rfl (Nat.le_of_ble_eq_true rfl) ⟨by rw [hcell]; decide, by rw [hslot]; try first | decide | omega⟩ ?_
  obtain ⟨g40, hf⟩ := gif hf
  refine z_putF X fl_RX11_85 ow_X11 hnm dX11_init_160 g40.1 g40.2 rfl (by decide) ?_
  let h_26 : Hp := hput r157 l0 12 (((n + 71 : Nat) : Int))
  refine z_aload_n X dX11_init_163 0 rfl ?_
  refine z_bipush X dX11_init_164 kb_6 kc_6 ?_
  refine z_sipush X dX11_init_166 ks_256 kc_256 ?_
  obtain ⟨g41, hf⟩ := gif hf
  obtain ⟨g42, hf⟩ := gif hf
  refine z_mna X hlin hs0 (n := n + 84) rfl hao cl2_RX11 aw_int dX11_init_169 (by decide) (by decide) (by decide) (by decide) g41.1 g41.2 g42 (by rw [hcell]; decide) (by rw [hslot]; try first | decide | omega) ?_
  let h_27 : Hp := hmul h_26 ((n + 84 : Nat) : Int) 6
  obtain ⟨g43, hf⟩ := gif hf
  refine z_putF X fl_RX11_90 ow_X11 hnm dX11_init_173 g43.1 g43.2 rfl (by decide) ?_
  let h_28 : Hp := hput h_27 l0 13 (((n + 84 : Nat) : Int))
  refine z_aload_n X dX11_init_176 0 rfl ?_
  refine z_bipush X dX11_init_177 kb_6 kc_6 ?_
  obtain ⟨g44, hf⟩ := gif hf
  refine z_newaI X hlin hs0 (n := n + 91) rfl aw_int dX11_init_179 g44.1 g44.2 (by rw [hcell]; decide) (by rw [hslot]; try first | decide | omega) ?_
  let h_29 : Hp := hnew h_28 ((n + 91 : Nat) : Int)
  obtain ⟨g45, hf⟩ := gif hf
  refine z_putF X fl_RX11_93 ow_X11 hnm dX11_init_181 g45.1 g45.2 rfl (by decide) ?_
  let h_30 : Hp := hput h_29 l0 14 (((n + 91 : Nat) : Int))
  refine z_aload_n X dX11_init_184 0 rfl ?_
  obtain ⟨g46, hf⟩ := gif hf
  refine z_new X hlin hs0 (n := n + 92) rfl nw_RX11_97 dX11_init_185 g46 (by rw [hcell]; decide) (by rw [hslot]; try first | decide | omega) ?_
  let h_31 : Hp := hnew h_30 ((n + 92 : Nat) : Int)
  refine z_dup X ne2 dX11_init_188 ?_
  obtain ⟨r189, hr189, hf⟩ := obE hf
  obtain ⟨g47, hf⟩ := gif hf
  refine z_callIN X hlin hs0 (n := n + 93) rfl hao ci_RX11_99 dX11_init_189 g47 (cn_Gr_new d (Nat.le_trans (by decide) hd) hlin (((n + 92 : Nat) : Int)) (n + 93) h_31 r189 hr189) (as := []) rfl rfl (Nat.le_of_ble_eq_true rfl) ⟨by rw [hcell]; decide, by rw [hslot]; try first | decide | omega⟩ ?_
  obtain ⟨g48, hf⟩ := gif hf
  refine z_put X fl_RX11_100 dX11_init_192 g48.1 g48.2 rfl (by decide) ?_
  let h_32 : Hp := hput r189 l0 15 (((n + 92 : Nat) : Int))
  refine z_aload_n X dX11_init_195 0 rfl ?_
  obtain ⟨g49, hf⟩ := gif hf
  refine z_new X hlin hs0 (n := n + 106) rfl nw_RX11_97 dX11_init_196 g49 (by rw [hcell]; decide) (by rw [hslot]; try first | decide | omega) ?_
  let h_33 : Hp := hnew h_32 ((n + 106 : Nat) : Int)
  refine z_dup X ne2 dX11_init_199 ?_
  obtain ⟨r200, hr200, hf⟩ := obE hf
  obtain ⟨g50, hf⟩ := gif hf
  refine z_callIN X hlin hs0 (n := n + 107) rfl hao ci_RX11_99 dX11_init_200 g50 (cn_Gr_new d (Nat.le_trans (by decide) hd) hlin (((n + 106 : Nat) : Int)) (n + 107) h_33 r200 hr200) (as := []) rfl rfl (Nat.le_of_ble_eq_true rfl) ⟨by rw [hcell]; decide, by rw [hslot]; try first | decide | omega⟩ ?_
  obtain ⟨g51, hf⟩ := gif hf
  refine z_put X fl_RX11_104 dX11_init_203 g51.1 g51.2 rfl (by decide) ?_
  let h_34 : Hp := hput r200 l0 16 (((n + 106 : Nat) : Int))
  refine z_aload_n X dX11_init_206 0 rfl ?_
  refine z_iconst X dX11_init_207 kc_0 ?_
  refine z_put X fl_RX11_107 dX11_init_208 g51.1 g51.2 rfl (by decide) ?_
  let h_35 : Hp := hput h_34 l0 17 0
  cases hf
  exact z_vret X hK dX11_init_211
set_option maxHeartbeats 4000000 in
set_option maxRecDepth 100000 in
theorem z_M_new_j420 {g : GP} {x : CX} {d : Nat} (X : zX g x RX12 cX12_init 6 (d + 1)) (hd : 0 ≤ d) (hcell : (xR x).cells = 35) (hslot : (xR x).slots = 196207) (l0 l1 l2 l3 l4 l5 : Int) (h : Hp) (y : (Int × Int × Hp) ⊕ (Int × Hp)) (hf : M_new_j420 l0 l1 l2 l3 l4 l5 h = some y) (E : Int × Hp → Prop) (hx0 : ∀ e : Int × Hp, E (e) → ZW g x 6 157 e.2 35 196207 426 [(0, (2, l0)), (1, (0, e.1)), (2, (0, l2)), (3, (0, l3)), (4, (0, l4))] []) (hk : z_sum (fun q : Int × Int × Hp => ZW g x 6 157 q.2.2 35 196207 341 [(0, (2, l0)), (1, (0, q.1)), (2, (0, l2)), (3, (0, l3)), (4, (0, l4)), (5, (0, q.2.1))] []) E y) : ZW g x 6 157 h 35 196207 420 [(0, (2, l0)), (1, (0, l1)), (2, (0, l2)), (3, (0, l3)), (4, (0, l4)), (5, (0, l5))] [] := by
  unfold M_new_j420 at hf
  refine z_iinc X dX12_init_420 5 rfl (by decide) (ls' := [(5, (0, w32 (l5 + 1))), (0, (2, l0)), (1, (0, l1)), (2, (0, l2)), (3, (0, l3)), (4, (0, l4))]) rfl ?_
  refine z_goto X dX12_init_423 rfl ?_
  cases hf
  exact z_weak [1, 2, 3, 4, 5, 0] rfl hk
set_option maxHeartbeats 4000000 in
set_option maxRecDepth 100000 in
theorem z_M_new_j372 {g : GP} {x : CX} {d : Nat} (X : zX g x RX12 cX12_init 6 (d + 1)) (hd : 0 ≤ d) (hcell : (xR x).cells = 35) (hslot : (xR x).slots = 196207) (l0 l1 l2 l3 l4 l5 : Int) (h : Hp) (y : (Int × Int × Hp) ⊕ (Int × Hp)) (hf : M_new_j372 l0 l1 l2 l3 l4 l5 h = some y) (E : Int × Hp → Prop) (hx0 : ∀ e : Int × Hp, E (e) → ZW g x 6 157 e.2 35 196207 426 [(0, (2, l0)), (1, (0, e.1)), (2, (0, l2)), (3, (0, l3)), (4, (0, l4))] []) (hk : z_sum (fun q : Int × Int × Hp => ZW g x 6 157 q.2.2 35 196207 341 [(0, (2, l0)), (1, (0, q.1)), (2, (0, l2)), (3, (0, l3)), (4, (0, l4)), (5, (0, q.2.1))] []) E y) : ZW g x 6 157 h 35 196207 372 [(0, (2, l0)), (1, (0, l1)), (2, (0, l2)), (3, (0, l3)), (4, (0, l4)), (5, (0, l5))] [] := by
  unfold M_new_j372 at hf
  refine z_aload_n X dX12_init_372 0 rfl ?_
  obtain ⟨g1, hf⟩ := gif hf
  refine y_get X fl_RX12_185 dX12_init_373 g1 ?_
  refine z_iload_n X dX12_init_376 2 rfl ?_
  refine z_iload_n X dX12_init_377 3 rfl ?_
  refine z_iload X dX12_init_378 4 rfl ?_
  refine z_iload X dX12_init_380 5 rfl ?_
  obtain ⟨r382, hr382, hf⟩ := obE hf
  refine y_S1 X cs_RX12_241 dX12_init_382 (c_M_place d (Nat.zero_le _) l2 l3 l4 l5 h r382 hr382) (as := [(0, l2), (0, l3), (0, l4), (0, l5)]) rfl rfl (Nat.le_of_ble_eq_true rfl) ⟨by rw [hcell]; decide, by rw [hslot]; decide⟩ ?_
  refine z_iload_n X dX12_init_385 1 rfl ?_
  obtain ⟨g2, hf⟩ := gif hf
  refine y_iast X dX12_init_386 g2 ?_
  let h_1 : Hp := hput h (h l0 36) r382 l1
  refine z_aload_n X dX12_init_387 0 rfl ?_
  refine y_get X fl_RX12_188 dX12_init_388 g1 ?_
  refine z_iload_n X dX12_init_391 1 rfl ?_
  refine z_iload_n X dX12_init_392 2 rfl ?_
  obtain ⟨g3, hf⟩ := gif hf
  refine y_iast X dX12_init_393 g3 ?_
  let h_2 : Hp := hput h_1 (h_1 l0 37) l1 l2
  refine z_aload_n X dX12_init_394 0 rfl ?_
  refine y_get X fl_RX12_191 dX12_init_395 g1 ?_
  refine z_iload_n X dX12_init_398 1 rfl ?_
  refine z_iload_n X dX12_init_399 3 rfl ?_
  obtain ⟨g4, hf⟩ := gif hf
  refine y_iast X dX12_init_400 g4 ?_
  let h_3 : Hp := hput h_2 (h_2 l0 38) l1 l3
  refine z_aload_n X dX12_init_401 0 rfl ?_
  refine y_get X fl_RX12_194 dX12_init_402 g1 ?_
  refine z_iload_n X dX12_init_405 1 rfl ?_
  refine z_iload X dX12_init_406 4 rfl ?_
  obtain ⟨g5, hf⟩ := gif hf
  refine y_iast X dX12_init_408 g5 ?_
  let h_4 : Hp := hput h_3 (h_3 l0 39) l1 l4
  refine z_aload_n X dX12_init_409 0 rfl ?_
  refine y_get X fl_RX12_197 dX12_init_410 g1 ?_
  refine z_iload_n X dX12_init_413 1 rfl ?_
  refine z_iload X dX12_init_414 5 rfl ?_
  obtain ⟨g6, hf⟩ := gif hf
  refine y_iast X dX12_init_416 g6 ?_
  let h_5 : Hp := hput h_4 (h_4 l0 40) l1 l5
  refine z_iinc X dX12_init_417 1 rfl (by decide) (ls' := [(1, (0, w32 (l1 + 1))), (0, (2, l0)), (2, (0, l2)), (3, (0, l3)), (4, (0, l4)), (5, (0, l5))]) rfl ?_
  exact z_weak [1, 0, 2, 3, 4, 5] rfl (z_M_new_j420 X hd hcell hslot l0 (w32 (l1 + 1)) l2 l3 l4 l5 h_5 _ hf E hx0 hk)
set_option maxHeartbeats 4000000 in
set_option maxRecDepth 100000 in
theorem z_M_new_j354 {g : GP} {x : CX} {d : Nat} (X : zX g x RX12 cX12_init 6 (d + 1)) (hd : 0 ≤ d) (hcell : (xR x).cells = 35) (hslot : (xR x).slots = 196207) (l0 l1 l2 l3 l4 l5 s0 s1 : Int) (h : Hp) (y : (Int × Int × Hp) ⊕ (Int × Hp)) (hf : M_new_j354 l0 l1 l2 l3 l4 l5 s0 s1 h = some y) (E : Int × Hp → Prop) (hx0 : ∀ e : Int × Hp, E (e) → ZW g x 6 157 e.2 35 196207 426 [(0, (2, l0)), (1, (0, e.1)), (2, (0, l2)), (3, (0, l3)), (4, (0, l4))] []) (hk : z_sum (fun q : Int × Int × Hp => ZW g x 6 157 q.2.2 35 196207 341 [(0, (2, l0)), (1, (0, q.1)), (2, (0, l2)), (3, (0, l3)), (4, (0, l4)), (5, (0, q.2.1))] []) E y) : ZW g x 6 157 h 35 196207 354 [(0, (2, l0)), (1, (0, l1)), (2, (0, l2)), (3, (0, l3)), (4, (0, l4)), (5, (0, l5))] [(0, s0), (0, s1)] := by
  unfold M_new_j354 at hf
  refine z_icmp_gt X dX12_init_354 rfl (fun hc354 => ?_) (fun hc354 => ?_)
  · have hf := ift hc354 hf
    cases hf
    exact z_weak [0, 1, 2, 3, 4] rfl (hx0 _ hk)
  · have hf := iff' hc354 hf
    refine z_iload X dX12_init_357 4 rfl ?_
    refine z_iconst X dX12_init_359 kc_m1 ?_
    refine z_icmp_eq X dX12_init_360 rfl (fun hc360 => ?_) (fun hc360 => ?_)
    · have hf := ift hc360 hf
      exact (z_M_new_j372 X hd hcell hslot l0 l1 l2 l3 l4 l5 h _ hf E hx0 hk)
    · have hf := iff' hc360 hf
      refine z_iload X dX12_init_363 4 rfl ?_
      refine z_iload_n X dX12_init_365 2 rfl ?_
      refine z_icmp_ge X dX12_init_366 rfl (fun hc366 => ?_) (fun hc366 => ?_)
      · have hf := ift hc366 hf
        exact (z_M_new_j372 X hd hcell hslot l0 l1 l2 l3 l4 l5 h _ hf E hx0 hk)
      · have hf := iff' hc366 hf
        refine z_goto X dX12_init_369 rfl ?_
        exact (z_M_new_j420 X hd hcell hslot l0 l1 l2 l3 l4 l5 h _ hf E hx0 hk)
set_option maxHeartbeats 4000000 in
set_option maxRecDepth 100000 in
theorem z_M_new_L341 {g : GP} {x : CX} {d : Nat} (X : zX g x RX12 cX12_init 6 (d + 1)) (hd : 0 ≤ d) (hcell : (xR x).cells = 35) (hslot : (xR x).slots = 196207) (l0 l2 l3 l4 : Int)  (E : Int × Hp → Prop) (hx0 : ∀ e : Int × Hp, E (e) → ZW g x 6 157 e.2 35 196207 426 [(0, (2, l0)), (1, (0, e.1)), (2, (0, l2)), (3, (0, l3)), (4, (0, l4))] []) (l1 l5 : Int) (h : Hp) (y : (Int × Int × Hp) ⊕ (Int × Hp)) (hf : M_new_L341 l0 l2 l3 l4 l1 l5 h = some y) (hk : z_sum (fun q : Int × Int × Hp => ZW g x 6 157 q.2.2 35 196207 341 [(0, (2, l0)), (1, (0, q.1)), (2, (0, l2)), (3, (0, l3)), (4, (0, l4)), (5, (0, q.2.1))] []) E y) : ZW g x 6 157 h 35 196207 341 [(0, (2, l0)), (1, (0, l1)), (2, (0, l2)), (3, (0, l3)), (4, (0, l4)), (5, (0, l5))] [] := by
  unfold M_new_L341 at hf
  refine z_iload X dX12_init_341 5 rfl ?_
  refine z_iload X dX12_init_343 4 rfl ?_
  refine z_iconst X dX12_init_345 kc_m1 ?_
  refine z_icmp_ne X dX12_init_346 rfl (fun hc346 => ?_) (fun hc346 => ?_)
  · rw [if_neg hc346] at hf
    refine z_iload_n X dX12_init_353 3 rfl ?_
    exact (z_M_new_j354 X hd hcell hslot l0 l1 l2 l3 l4 l5 l3 l5 h _ hf E hx0 hk)
  · rw [if_pos hc346] at hf
    refine z_iconst X dX12_init_349 kc_m1 ?_
    refine z_goto X dX12_init_350 rfl ?_
    exact (z_M_new_j354 X hd hcell hslot l0 l1 l2 l3 l4 l5 ((-1)) l5 h _ hf E hx0 hk)
set_option maxHeartbeats 4000000 in
set_option maxRecDepth 100000 in
theorem z_M_new_j339 {g : GP} {x : CX} {d : Nat} (X : zX g x RX12 cX12_init 6 (d + 1)) (hd : 0 ≤ d) (hcell : (xR x).cells = 35) (hslot : (xR x).slots = 196207) (l0 l1 l2 l3 l4 s0 : Int) (h : Hp) (y : (Int × Int × Hp) ⊕ (Int × Hp)) (hf : M_new_j339 l0 l1 l2 l3 l4 s0 h = some y) (E : Int × Hp → Prop) (hx0 : ∀ e : Int × Hp, E (e) → ZW g x 6 157 e.2 35 196207 432 [(0, (2, l0)), (1, (0, e.1)), (2, (0, l2)), (3, (0, l3))] []) (hk : z_sum (fun q : Int × Int × Hp => ZW g x 6 157 q.2.2 35 196207 321 [(0, (2, l0)), (1, (0, q.1)), (2, (0, l2)), (3, (0, l3)), (4, (0, q.2.1))] []) E y) : ZW g x 6 157 h 35 196207 339 [(0, (2, l0)), (1, (0, l1)), (2, (0, l2)), (3, (0, l3)), (4, (0, l4))] [(0, s0)] := by
  unfold M_new_j339 at hf
  refine z_istore X dX12_init_339 (by decide) (ls' := [(5, (0, s0)), (0, (2, l0)), (1, (0, l1)), (2, (0, l2)), (3, (0, l3)), (4, (0, l4))]) rfl ?_
  obtain ⟨q341, hq341, hf⟩ := obE hf
  have hx341_0 : ∀ e426 : Int × Hp, (e426 : Int × Hp) = q341 → ZW g x 6 157 e426.2 35 196207 426 [(0, (2, l0)), (1, (0, e426.1)), (2, (0, l2)), (3, (0, l3)), (4, (0, l4))] [] := by
    intro e426 hq
    subst hq
    refine z_iinc X dX12_init_426 4 rfl (by decide) (ls' := [(4, (0, w32 (l4 + 1))), (0, (2, l0)), (1, (0, e426.1)), (2, (0, l2)), (3, (0, l3))]) rfl ?_
    refine z_goto X dX12_init_429 rfl ?_
    cases hf
    exact z_weak [1, 2, 3, 4, 0] rfl hk
  exact z_weak [1, 2, 3, 4, 5, 0] rfl (z_loop (Z := (fun q : Int × Int × Hp => ZW g x 6 157 q.2.2 35 196207 341 [(0, (2, l0)), (1, (0, q.1)), (2, (0, l2)), (3, (0, l3)), (4, (0, l4)), (5, (0, q.2.1))] [])) (E := fun q => q = q341) (fun q y hb hk => z_M_new_L341 X hd hcell hslot l0 l2 l3 l4 (fun q => q = q341) hx341_0 q.1 q.2.1 q.2.2 y hb hk) LN (l1, s0, h) q341 hq341 rfl)
set_option maxHeartbeats 4000000 in
set_option maxRecDepth 100000 in
theorem z_M_new_L321 {g : GP} {x : CX} {d : Nat} (X : zX g x RX12 cX12_init 6 (d + 1)) (hd : 0 ≤ d) (hcell : (xR x).cells = 35) (hslot : (xR x).slots = 196207) (l0 l2 l3 : Int)  (E : Int × Hp → Prop) (hx0 : ∀ e : Int × Hp, E (e) → ZW g x 6 157 e.2 35 196207 432 [(0, (2, l0)), (1, (0, e.1)), (2, (0, l2)), (3, (0, l3))] []) (l1 l4 : Int) (h : Hp) (y : (Int × Int × Hp) ⊕ (Int × Hp)) (hf : M_new_L321 l0 l2 l3 l1 l4 h = some y) (hk : z_sum (fun q : Int × Int × Hp => ZW g x 6 157 q.2.2 35 196207 321 [(0, (2, l0)), (1, (0, q.1)), (2, (0, l2)), (3, (0, l3)), (4, (0, q.2.1))] []) E y) : ZW g x 6 157 h 35 196207 321 [(0, (2, l0)), (1, (0, l1)), (2, (0, l2)), (3, (0, l3)), (4, (0, l4))] [] := by
  unfold M_new_L321 at hf
  refine z_iload X dX12_init_321 4 rfl ?_
  refine z_iload_n X dX12_init_323 3 rfl ?_
  refine z_icmp_gt X dX12_init_324 rfl (fun hc324 => ?_) (fun hc324 => ?_)
  · have hf := ift hc324 hf
    cases hf
    exact z_weak [0, 1, 2, 3] rfl (hx0 _ hk)
  · have hf := iff' hc324 hf
    refine z_iload X dX12_init_327 4 rfl ?_
    refine z_iconst X dX12_init_329 kc_m1 ?_
    refine z_icmp_ne X dX12_init_330 rfl (fun hc330 => ?_) (fun hc330 => ?_)
    · rw [if_neg hc330] at hf
      refine z_iload X dX12_init_337 4 rfl ?_
      exact (z_M_new_j339 X hd hcell hslot l0 l1 l2 l3 l4 l4 h _ hf E hx0 hk)
    · rw [if_pos hc330] at hf
      refine z_iconst X dX12_init_333 kc_m1 ?_
      refine z_goto X dX12_init_334 rfl ?_
      exact (z_M_new_j339 X hd hcell hslot l0 l1 l2 l3 l4 ((-1)) h _ hf E hx0 hk)
set_option maxHeartbeats 4000000 in
set_option maxRecDepth 100000 in
theorem z_M_new_L312 {g : GP} {x : CX} {d : Nat} (X : zX g x RX12 cX12_init 6 (d + 1)) (hd : 0 ≤ d) (hcell : (xR x).cells = 35) (hslot : (xR x).slots = 196207) (l0 l2 : Int)  (E : Int × Hp → Prop) (hx0 : ∀ e : Int × Hp, E (e) → ZW g x 6 157 e.2 35 196207 438 [(0, (2, l0)), (1, (0, e.1)), (2, (0, l2))] []) (l1 l3 : Int) (h : Hp) (y : (Int × Int × Hp) ⊕ (Int × Hp)) (hf : M_new_L312 l0 l2 l1 l3 h = some y) (hk : z_sum (fun q : Int × Int × Hp => ZW g x 6 157 q.2.2 35 196207 312 [(0, (2, l0)), (1, (0, q.1)), (2, (0, l2)), (3, (0, q.2.1))] []) E y) : ZW g x 6 157 h 35 196207 312 [(0, (2, l0)), (1, (0, l1)), (2, (0, l2)), (3, (0, l3))] [] := by
  unfold M_new_L312 at hf
  refine z_iload_n X dX12_init_312 3 rfl ?_
  refine z_bipush X dX12_init_313 kb_8 kc_8 ?_
  refine z_icmp_gt X dX12_init_315 rfl (fun hc315 => ?_) (fun hc315 => ?_)
  · have hf := ift hc315 hf
    cases hf
    exact z_weak [0, 1, 2] rfl (hx0 _ hk)
  · have hf := iff' hc315 hf
    refine z_iconst X dX12_init_318 kc_m1 ?_
    refine z_istore X dX12_init_319 (by decide) (ls' := [(4, (0, (-1))), (0, (2, l0)), (1, (0, l1)), (2, (0, l2)), (3, (0, l3))]) rfl ?_
    obtain ⟨q321, hq321, hf⟩ := obE hf
    have hx321_0 : ∀ e432 : Int × Hp, (e432 : Int × Hp) = q321 → ZW g x 6 157 e432.2 35 196207 432 [(0, (2, l0)), (1, (0, e432.1)), (2, (0, l2)), (3, (0, l3))] [] := by
      intro e432 hq
      subst hq
      refine z_iinc X dX12_init_432 3 rfl (by decide) (ls' := [(3, (0, w32 (l3 + 1))), (0, (2, l0)), (1, (0, e432.1)), (2, (0, l2))]) rfl ?_
      refine z_goto X dX12_init_435 rfl ?_
      cases hf
      exact z_weak [1, 2, 3, 0] rfl hk
    exact z_weak [1, 2, 3, 4, 0] rfl (z_loop (Z := (fun q : Int × Int × Hp => ZW g x 6 157 q.2.2 35 196207 321 [(0, (2, l0)), (1, (0, q.1)), (2, (0, l2)), (3, (0, l3)), (4, (0, q.2.1))] [])) (E := fun q => q = q321) (fun q y hb hk => z_M_new_L321 X hd hcell hslot l0 l2 l3 (fun q => q = q321) hx321_0 q.1 q.2.1 q.2.2 y hb hk) LN (l1, (-1), h) q321 hq321 rfl)
set_option maxHeartbeats 4000000 in
set_option maxRecDepth 100000 in
theorem z_M_new_L304 {g : GP} {x : CX} {d : Nat} (X : zX g x RX12 cX12_init 6 (d + 1)) (hd : 0 ≤ d) (hcell : (xR x).cells = 35) (hslot : (xR x).slots = 196207) (l0 : Int)  (E : Hp → Prop) (hx0 : ∀ e : Hp, E (e) → ZW g x 6 157 e 35 196207 444 [(0, (2, l0))] []) (l1 l2 : Int) (h : Hp) (y : (Int × Int × Hp) ⊕ (Hp)) (hf : M_new_L304 l0 l1 l2 h = some y) (hk : z_sum (fun q : Int × Int × Hp => ZW g x 6 157 q.2.2 35 196207 304 [(0, (2, l0)), (1, (0, q.1)), (2, (0, q.2.1))] []) E y) : ZW g x 6 157 h 35 196207 304 [(0, (2, l0)), (1, (0, l1)), (2, (0, l2))] [] := by
  unfold M_new_L304 at hf
  refine z_iload_n X dX12_init_304 2 rfl ?_
  refine z_bipush X dX12_init_305 kb_8 kc_8 ?_
  refine z_icmp_gt X dX12_init_307 rfl (fun hc307 => ?_) (fun hc307 => ?_)
  · have hf := ift hc307 hf
    cases hf
    exact z_weak [0] rfl (hx0 _ hk)
  · have hf := iff' hc307 hf
    refine z_iload_n X dX12_init_310 2 rfl ?_
    refine z_istore_n X dX12_init_311 (by decide) (ls' := [(3, (0, l2)), (0, (2, l0)), (1, (0, l1)), (2, (0, l2))]) rfl ?_
    obtain ⟨q312, hq312, hf⟩ := obE hf
    have hx312_0 : ∀ e438 : Int × Hp, (e438 : Int × Hp) = q312 → ZW g x 6 157 e438.2 35 196207 438 [(0, (2, l0)), (1, (0, e438.1)), (2, (0, l2))] [] := by
      intro e438 hq
      subst hq
      refine z_iinc X dX12_init_438 2 rfl (by decide) (ls' := [(2, (0, w32 (l2 + 1))), (0, (2, l0)), (1, (0, e438.1))]) rfl ?_
      refine z_goto X dX12_init_441 rfl ?_
      cases hf
      exact z_weak [1, 2, 0] rfl hk
    exact z_weak [1, 2, 3, 0] rfl (z_loop (Z := (fun q : Int × Int × Hp => ZW g x 6 157 q.2.2 35 196207 312 [(0, (2, l0)), (1, (0, q.1)), (2, (0, l2)), (3, (0, q.2.1))] [])) (E := fun q => q = q312) (fun q y hb hk => z_M_new_L312 X hd hcell hslot l0 l2 (fun q => q = q312) hx312_0 q.1 q.2.1 q.2.2 y hb hk) LN (l1, l2, h) q312 hq312 rfl)
set_option maxHeartbeats 4000000 in
set_option maxRecDepth 100000 in
theorem z_M_new_t {g : GP} {x : CX} {d : Nat} (X : zX g x RX12 cX12_init 6 (d + 1)) (hd : 0 ≤ d) (hcell : (xR x).cells = 35) (hslot : (xR x).slots = 196207) (l0 : Int) (h : Hp) (y : Hp) (hf : M_new_t l0 h = some y) (hK : zE g x none 35 196207 157 y none) : ZW g x 6 157 h 35 196207 300 [(0, (2, l0))] [] := by
  unfold M_new_t at hf
  refine z_iconst X dX12_init_300 kc_0 ?_
  refine z_istore_n X dX12_init_301 (by decide) (ls' := [(1, (0, 0)), (0, (2, l0))]) rfl ?_
  refine z_iconst X dX12_init_302 kc_0 ?_
  refine z_istore_n X dX12_init_303 (by decide) (ls' := [(2, (0, 0)), (1, (0, 0)), (0, (2, l0))]) rfl ?_
  obtain ⟨q304, hq304, hf⟩ := obE hf
  have hx304_0 : ∀ e444 : Hp, (e444 : Hp) = q304 → ZW g x 6 157 e444 35 196207 444 [(0, (2, l0))] [] := by
    intro e444 hq
    subst hq
    refine z_aload_n X dX12_init_444 0 rfl ?_
    obtain ⟨g7, hf⟩ := gif hf
    obtain ⟨r445, hr445, hf⟩ := obE hf
    refine y_V0 X cv_RX12_244 dX12_init_445 g7 (c_M_forgets d (Nat.zero_le _) l0 e444 r445 hr445) (as := []) rfl rfl (Nat.le_of_ble_eq_true rfl) ⟨by rw [hcell]; decide, by rw [hslot]; decide⟩ ?_
    cases hf
    exact z_vret X hK dX12_init_448
  exact z_weak [2, 1, 0] rfl (z_loop (Z := (fun q : Int × Int × Hp => ZW g x 6 157 q.2.2 35 196207 304 [(0, (2, l0)), (1, (0, q.1)), (2, (0, q.2.1))] [])) (E := fun q => q = q304) (fun q y hb hk => z_M_new_L304 X hd hcell hslot l0 (fun q => q = q304) hx304_0 q.1 q.2.1 q.2.2 y hb hk) LN (0, 0, h) q304 hq304 rfl)
set_option maxHeartbeats 4000000 in
set_option maxRecDepth 100000 in
theorem cn_M_new {l : Launch} {g : GP} (d : Nat) (hd : 1 ≤ d) (hlin : z_lin g) (l0 : Int) (h : Hp) (y : Hp) (hf : M_new l0 122 h = some y) : zN l yX12_init cX12_init 6 d 35 196207 g 122 h [(2, l0)] 157 y := by
  obtain ⟨d, rfl⟩ : ∃ k, d = k + 1 := ⟨d - 1, by omega⟩
  replace hd : 0 ≤ d := Nat.le_of_succ_le_succ hd
  refine z_startN (by decide) (Nat.le_of_ble_eq_true rfl) (fun x X hK hnm hcell hslot hs0 hao hl => ?_)
  show ZW g x 6 122 h 0 0 0 [(0, (2, l0))] []
  unfold M_new at hf
  refine z_aload_n X dX12_init_0 0 rfl ?_
  obtain ⟨g1, hf⟩ := gif hf
  refine z_obj X oi_RX12_177 oi_inst oi_code dX12_init_1 g1 (Nat.le_of_ble_eq_true rfl) ?_
  refine z_aload_n X dX12_init_4 0 rfl ?_
  refine z_bipush X dX12_init_5 kb_18 kc_18 ?_
  obtain ⟨g2, hf⟩ := gif hf
  refine z_newaI X hlin hs0 (n := 122) rfl aw_int dX12_init_7 g2.1 g2.2 (by rw [hcell]; decide) (by rw [hslot]; try first | decide | omega) ?_
  let h_1 : Hp := hnew h ((122 : Nat) : Int)
  obtain ⟨g3, hf⟩ := gif hf
  refine z_putF X fl_RX12_7 ow_X12 hnm dX12_init_9 g3.1 g3.2 rfl (by decide) ?_
  let h_2 : Hp := hput h_1 l0 4 (((122 : Nat) : Int))
  refine z_aload_n X dX12_init_12 0 rfl ?_
  refine z_bipush X dX12_init_13 kb_80 kc_80 ?_
  obtain ⟨g4, hf⟩ := gif hf
  refine z_newaI X hlin hs0 (n := 122 + 1) rfl aw_int dX12_init_15 g4.1 g4.2 (by rw [hcell]; decide) (by rw [hslot]; try first | decide | omega) ?_
  let h_3 : Hp := hnew h_2 ((122 + 1 : Nat) : Int)
  obtain ⟨g5, hf⟩ := gif hf
  refine z_putF X fl_RX12_98 ow_X12 hnm dX12_init_17 g5.1 g5.2 rfl (by decide) ?_
  let h_4 : Hp := hput h_3 l0 5 (((122 + 1 : Nat) : Int))
  refine z_aload_n X dX12_init_20 0 rfl ?_
  refine z_bipush X dX12_init_21 kb_80 kc_80 ?_
  obtain ⟨g6, hf⟩ := gif hf
  refine z_newaI X hlin hs0 (n := 122 + 2) rfl aw_int dX12_init_23 g6.1 g6.2 (by rw [hcell]; decide) (by rw [hslot]; try first | decide | omega) ?_
  let h_5 : Hp := hnew h_4 ((122 + 2 : Nat) : Int)
  obtain ⟨g7, hf⟩ := gif hf
  refine z_putF X fl_RX12_101 ow_X12 hnm dX12_init_25 g7.1 g7.2 rfl (by decide) ?_
  let h_6 : Hp := hput h_5 l0 6 (((122 + 2 : Nat) : Int))
  refine z_aload_n X dX12_init_28 0 rfl ?_
  refine z_bipush X dX12_init_29 kb_80 kc_80 ?_
  obtain ⟨g8, hf⟩ := gif hf
  refine z_newaI X hlin hs0 (n := 122 + 3) rfl aw_int dX12_init_31 g8.1 g8.2 (by rw [hcell]; decide) (by rw [hslot]; try first | decide | omega) ?_
  let h_7 : Hp := hnew h_6 ((122 + 3 : Nat) : Int)
  obtain ⟨g9, hf⟩ := gif hf
  refine z_putF X fl_RX12_104 ow_X12 hnm dX12_init_33 g9.1 g9.2 rfl (by decide) ?_
  let h_8 : Hp := hput h_7 l0 7 (((122 + 3 : Nat) : Int))
  refine z_aload_n X dX12_init_36 0 rfl ?_
  refine z_bipush X dX12_init_37 kb_80 kc_80 ?_
  obtain ⟨g10, hf⟩ := gif hf
  refine z_newaI X hlin hs0 (n := 122 + 4) rfl aw_int dX12_init_39 g10.1 g10.2 (by rw [hcell]; decide) (by rw [hslot]; try first | decide | omega) ?_
  let h_9 : Hp := hnew h_8 ((122 + 4 : Nat) : Int)
  obtain ⟨g11, hf⟩ := gif hf
  refine z_putF X fl_RX12_107 ow_X12 hnm dX12_init_41 g11.1 g11.2 rfl (by decide) ?_
  let h_10 : Hp := hput h_9 l0 8 (((122 + 4 : Nat) : Int))
  refine z_aload_n X dX12_init_44 0 rfl ?_
  refine z_bipush X dX12_init_45 kb_80 kc_80 ?_
  obtain ⟨g12, hf⟩ := gif hf
  refine z_newaI X hlin hs0 (n := 122 + 5) rfl aw_int dX12_init_47 g12.1 g12.2 (by rw [hcell]; decide) (by rw [hslot]; try first | decide | omega) ?_
  let h_11 : Hp := hnew h_10 ((122 + 5 : Nat) : Int)
  obtain ⟨g13, hf⟩ := gif hf
  refine z_putF X fl_RX12_110 ow_X12 hnm dX12_init_49 g13.1 g13.2 rfl (by decide) ?_
  let h_12 : Hp := hput h_11 l0 9 (((122 + 5 : Nat) : Int))
  refine z_aload_n X dX12_init_52 0 rfl ?_
  refine z_bipush X dX12_init_53 kb_80 kc_80 ?_
  obtain ⟨g14, hf⟩ := gif hf
  refine z_newaI X hlin hs0 (n := 122 + 6) rfl aw_int dX12_init_55 g14.1 g14.2 (by rw [hcell]; decide) (by rw [hslot]; try first | decide | omega) ?_
  let h_13 : Hp := hnew h_12 ((122 + 6 : Nat) : Int)
  obtain ⟨g15, hf⟩ := gif hf
  refine z_putF X fl_RX12_113 ow_X12 hnm dX12_init_57 g15.1 g15.2 rfl (by decide) ?_
  let h_14 : Hp := hput h_13 l0 10 (((122 + 6 : Nat) : Int))
  refine z_aload_n X dX12_init_60 0 rfl ?_
  refine z_bipush X dX12_init_61 kb_40 kc_40 ?_
  obtain ⟨g16, hf⟩ := gif hf
  refine z_newaI X hlin hs0 (n := 122 + 7) rfl aw_int dX12_init_63 g16.1 g16.2 (by rw [hcell]; decide) (by rw [hslot]; try first | decide | omega) ?_
  let h_15 : Hp := hnew h_14 ((122 + 7 : Nat) : Int)
  obtain ⟨g17, hf⟩ := gif hf
  refine z_putF X fl_RX12_164 ow_X12 hnm dX12_init_65 g17.1 g17.2 rfl (by decide) ?_
  let h_16 : Hp := hput h_15 l0 13 (((122 + 7 : Nat) : Int))
  refine z_aload_n X dX12_init_68 0 rfl ?_
  refine z_bipush X dX12_init_69 kb_40 kc_40 ?_
  obtain ⟨g18, hf⟩ := gif hf
  refine z_newaZ X hlin hs0 (n := 122 + 8) rfl aw_boolean dX12_init_71 g18.1 g18.2 (by rw [hcell]; decide) (by rw [hslot]; try first | decide | omega) ?_
  let h_17 : Hp := hnew h_16 ((122 + 8 : Nat) : Int)
  obtain ⟨g19, hf⟩ := gif hf
  refine z_putF X fl_RX12_167 ow_X12 hnm dX12_init_73 g19.1 g19.2 rfl (by decide) ?_
  let h_18 : Hp := hput h_17 l0 14 (((122 + 8 : Nat) : Int))
  refine z_aload_n X dX12_init_76 0 rfl ?_
  refine z_bipush X dX12_init_77 kb_40 kc_40 ?_
  obtain ⟨g20, hf⟩ := gif hf
  refine z_newaI X hlin hs0 (n := 122 + 9) rfl aw_int dX12_init_79 g20.1 g20.2 (by rw [hcell]; decide) (by rw [hslot]; try first | decide | omega) ?_
  let h_19 : Hp := hnew h_18 ((122 + 9 : Nat) : Int)
  obtain ⟨g21, hf⟩ := gif hf
  refine z_putF X fl_RX12_161 ow_X12 hnm dX12_init_81 g21.1 g21.2 rfl (by decide) ?_
  let h_20 : Hp := hput h_19 l0 15 (((122 + 9 : Nat) : Int))
  refine z_aload_n X dX12_init_84 0 rfl ?_
  refine z_bipush X dX12_init_85 kb_8 kc_8 ?_
  obtain ⟨g22, hf⟩ := gif hf
  refine z_newaI X hlin hs0 (n := 122 + 10) rfl aw_int dX12_init_87 g22.1 g22.2 (by rw [hcell]; decide) (by rw [hslot]; try first | decide | omega) ?_
  let h_21 : Hp := hnew h_20 ((122 + 10 : Nat) : Int)
  obtain ⟨g23, hf⟩ := gif hf
  refine z_putF X fl_RX12_29 ow_X12 hnm dX12_init_89 g23.1 g23.2 rfl (by decide) ?_
  let h_22 : Hp := hput h_21 l0 16 (((122 + 10 : Nat) : Int))
  refine z_aload_n X dX12_init_92 0 rfl ?_
  refine z_bipush X dX12_init_93 kb_8 kc_8 ?_
  obtain ⟨g24, hf⟩ := gif hf
  refine z_newaI X hlin hs0 (n := 122 + 11) rfl aw_int dX12_init_95 g24.1 g24.2 (by rw [hcell]; decide) (by rw [hslot]; try first | decide | omega) ?_
  let h_23 : Hp := hnew h_22 ((122 + 11 : Nat) : Int)
  obtain ⟨g25, hf⟩ := gif hf
  refine z_putF X fl_RX12_155 ow_X12 hnm dX12_init_97 g25.1 g25.2 rfl (by decide) ?_
  let h_24 : Hp := hput h_23 l0 17 (((122 + 11 : Nat) : Int))
  refine z_aload_n X dX12_init_100 0 rfl ?_
  refine z_bipush X dX12_init_101 kb_8 kc_8 ?_
  obtain ⟨g26, hf⟩ := gif hf
  refine z_newaI X hlin hs0 (n := 122 + 12) rfl aw_int dX12_init_103 g26.1 g26.2 (by rw [hcell]; decide) (by rw [hslot]; try first | decide | omega) ?_
  let h_25 : Hp := hnew h_24 ((122 + 12 : Nat) : Int)
  obtain ⟨g27, hf⟩ := gif hf
  refine z_putF X fl_RX12_158 ow_X12 hnm dX12_init_105 g27.1 g27.2 rfl (by decide) ?_
  let h_26 : Hp := hput h_25 l0 18 (((122 + 12 : Nat) : Int))
  refine z_aload_n X dX12_init_108 0 rfl ?_
  refine z_sipush X dX12_init_109 ks_400 kc_400 ?_
  obtain ⟨g28, hf⟩ := gif hf
  refine z_newaB X hlin hs0 (n := 122 + 13) rfl aw_byte dX12_init_112 g28.1 g28.2 (by rw [hcell]; decide) (by rw [hslot]; try first | decide | omega) ?_
  let h_27 : Hp := hnew h_26 ((122 + 13 : Nat) : Int)
  obtain ⟨g29, hf⟩ := gif hf
  refine z_putF X fl_RX12_38 ow_X12 hnm dX12_init_114 g29.1 g29.2 rfl (by decide) ?_
  let h_28 : Hp := hput h_27 l0 19 (((122 + 13 : Nat) : Int))
  refine z_aload_n X dX12_init_117 0 rfl ?_
  refine z_iconst X dX12_init_118 kc_5 ?_
  obtain ⟨g30, hf⟩ := gif hf
  refine z_newaI X hlin hs0 (n := 122 + 14) rfl aw_int dX12_init_119 g30.1 g30.2 (by rw [hcell]; decide) (by rw [hslot]; try first | decide | omega) ?_
  let h_29 : Hp := hnew h_28 ((122 + 14 : Nat) : Int)
  obtain ⟨g31, hf⟩ := gif hf
  refine z_putF X fl_RX12_35 ow_X12 hnm dX12_init_121 g31.1 g31.2 rfl (by decide) ?_
  let h_30 : Hp := hput h_29 l0 21 (((122 + 14 : Nat) : Int))
  refine z_aload_n X dX12_init_124 0 rfl ?_
  refine z_iconst X dX12_init_125 kc_m1 ?_
  refine z_put X fl_RX12_79 dX12_init_126 g31.1 g31.2 rfl (by decide) ?_
  let h_31 : Hp := hput h_30 l0 28 ((-1))
  refine z_aload_n X dX12_init_129 0 rfl ?_
  refine z_bipush X dX12_init_130 kb_8 kc_8 ?_
  obtain ⟨g32, hf⟩ := gif hf
  refine z_newaI X hlin hs0 (n := 122 + 15) rfl aw_int dX12_init_132 g32.1 g32.2 (by rw [hcell]; decide) (by rw [hslot]; try first | decide | omega) ?_
  let h_32 : Hp := hnew h_31 ((122 + 15 : Nat) : Int)
  obtain ⟨g33, hf⟩ := gif hf
  refine z_putF X fl_RX12_174 ow_X12 hnm dX12_init_134 g33.1 g33.2 rfl (by decide) ?_
  let h_33 : Hp := hput h_32 l0 31 (((122 + 15 : Nat) : Int))
  refine z_aload_n X dX12_init_137 0 rfl ?_
  refine z_bipush X dX12_init_138 kb_8 kc_8 ?_
  obtain ⟨g34, hf⟩ := gif hf
  refine z_newaI X hlin hs0 (n := 122 + 16) rfl aw_int dX12_init_140 g34.1 g34.2 (by rw [hcell]; decide) (by rw [hslot]; try first | decide | omega) ?_
  let h_34 : Hp := hnew h_33 ((122 + 16 : Nat) : Int)
  obtain ⟨g35, hf⟩ := gif hf
  refine z_putF X fl_RX12_182 ow_X12 hnm dX12_init_142 g35.1 g35.2 rfl (by decide) ?_
  let h_35 : Hp := hput h_34 l0 33 (((122 + 16 : Nat) : Int))
  refine z_aload_n X dX12_init_145 0 rfl ?_
  refine z_sipush X dX12_init_146 ks_10000 kc_10000 ?_
  obtain ⟨g36, hf⟩ := gif hf
  refine z_newaI X hlin hs0 (n := 122 + 17) rfl aw_int dX12_init_149 g36.1 g36.2 (by rw [hcell]; decide) (by rw [hslot]; try first | decide | omega) ?_
  let h_36 : Hp := hnew h_35 ((122 + 17 : Nat) : Int)
  obtain ⟨g37, hf⟩ := gif hf
  refine z_putF X fl_RX12_185 ow_X12 hnm dX12_init_151 g37.1 g37.2 rfl (by decide) ?_
  let h_37 : Hp := hput h_36 l0 36 (((122 + 17 : Nat) : Int))
  refine z_aload_n X dX12_init_154 0 rfl ?_
  refine z_sipush X dX12_init_155 ks_540 kc_540 ?_
  obtain ⟨g38, hf⟩ := gif hf
  refine z_newaI X hlin hs0 (n := 122 + 18) rfl aw_int dX12_init_158 g38.1 g38.2 (by rw [hcell]; decide) (by rw [hslot]; try first | decide | omega) ?_
  let h_38 : Hp := hnew h_37 ((122 + 18 : Nat) : Int)
  obtain ⟨g39, hf⟩ := gif hf
  refine z_putF X fl_RX12_188 ow_X12 hnm dX12_init_160 g39.1 g39.2 rfl (by decide) ?_
  let h_39 : Hp := hput h_38 l0 37 (((122 + 18 : Nat) : Int))
  refine z_aload_n X dX12_init_163 0 rfl ?_
  refine z_sipush X dX12_init_164 ks_540 kc_540 ?_
  obtain ⟨g40, hf⟩ := gif hf
  refine z_newaI X hlin hs0 (n := 122 + 19) rfl aw_int dX12_init_167 g40.1 g40.2 (by rw [hcell]; decide) (by rw [hslot]; try first | decide | omega) ?_
  let h_40 : Hp := hnew h_39 ((122 + 19 : Nat) : Int)
  obtain ⟨g41, hf⟩ := gif hf
  refine z_putF X fl_RX12_191 ow_X12 hnm dX12_init_169 g41.1 g41.2 rfl (by decide) ?_
  let h_41 : Hp := hput h_40 l0 38 (((122 + 19 : Nat) : Int))
  refine z_aload_n X dX12_init_172 0 rfl ?_
  refine z_sipush X dX12_init_173 ks_540 kc_540 ?_
  obtain ⟨g42, hf⟩ := gif hf
  refine z_newaI X hlin hs0 (n := 122 + 20) rfl aw_int dX12_init_176 g42.1 g42.2 (by rw [hcell]; decide) (by rw [hslot]; try first | decide | omega) ?_
  let h_42 : Hp := hnew h_41 ((122 + 20 : Nat) : Int)
  obtain ⟨g43, hf⟩ := gif hf
  refine z_putF X fl_RX12_194 ow_X12 hnm dX12_init_178 g43.1 g43.2 rfl (by decide) ?_
  let h_43 : Hp := hput h_42 l0 39 (((122 + 20 : Nat) : Int))
  refine z_aload_n X dX12_init_181 0 rfl ?_
  refine z_sipush X dX12_init_182 ks_540 kc_540 ?_
  obtain ⟨g44, hf⟩ := gif hf
  refine z_newaI X hlin hs0 (n := 122 + 21) rfl aw_int dX12_init_185 g44.1 g44.2 (by rw [hcell]; decide) (by rw [hslot]; try first | decide | omega) ?_
  let h_44 : Hp := hnew h_43 ((122 + 21 : Nat) : Int)
  obtain ⟨g45, hf⟩ := gif hf
  refine z_putF X fl_RX12_197 ow_X12 hnm dX12_init_187 g45.1 g45.2 rfl (by decide) ?_
  let h_45 : Hp := hput h_44 l0 40 (((122 + 21 : Nat) : Int))
  refine z_aload_n X dX12_init_190 0 rfl ?_
  refine z_ldc X ki_RX12_200 kc_43200 dX12_init_191 ?_
  obtain ⟨g46, hf⟩ := gif hf
  refine z_newaJ X hlin hs0 (n := 122 + 22) rfl aw_long dX12_init_193 g46.1 g46.2 (by rw [hcell]; decide) (by rw [hslot]; try first | decide | omega) ?_
  let h_46 : Hp := hnew h_45 ((122 + 22 : Nat) : Int)
  obtain ⟨g47, hf⟩ := gif hf
  refine z_putF X fl_RX12_201 ow_X12 hnm dX12_init_195 g47.1 g47.2 rfl (by decide) ?_
  let h_47 : Hp := hput h_46 l0 41 (((122 + 22 : Nat) : Int))
  refine z_aload_n X dX12_init_198 0 rfl ?_
  refine z_ldc X ki_RX12_200 kc_43200 dX12_init_199 ?_
  obtain ⟨g48, hf⟩ := gif hf
  refine z_newaI X hlin hs0 (n := 122 + 23) rfl aw_int dX12_init_201 g48.1 g48.2 (by rw [hcell]; decide) (by rw [hslot]; try first | decide | omega) ?_
  let h_48 : Hp := hnew h_47 ((122 + 23 : Nat) : Int)
  obtain ⟨g49, hf⟩ := gif hf
  refine z_putF X fl_RX12_205 ow_X12 hnm dX12_init_203 g49.1 g49.2 rfl (by decide) ?_
  let h_49 : Hp := hput h_48 l0 42 (((122 + 23 : Nat) : Int))
  refine z_aload_n X dX12_init_206 0 rfl ?_
  refine z_ldc X ki_RX12_200 kc_43200 dX12_init_207 ?_
  obtain ⟨g50, hf⟩ := gif hf
  refine z_newaI X hlin hs0 (n := 122 + 24) rfl aw_int dX12_init_209 g50.1 g50.2 (by rw [hcell]; decide) (by rw [hslot]; try first | decide | omega) ?_
  let h_50 : Hp := hnew h_49 ((122 + 24 : Nat) : Int)
  obtain ⟨g51, hf⟩ := gif hf
  refine z_putF X fl_RX12_208 ow_X12 hnm dX12_init_211 g51.1 g51.2 rfl (by decide) ?_
  let h_51 : Hp := hput h_50 l0 43 (((122 + 24 : Nat) : Int))
  refine z_aload_n X dX12_init_214 0 rfl ?_
  refine z_ldc X ki_RX12_200 kc_43200 dX12_init_215 ?_
  obtain ⟨g52, hf⟩ := gif hf
  refine z_newaZ X hlin hs0 (n := 122 + 25) rfl aw_boolean dX12_init_217 g52.1 g52.2 (by rw [hcell]; decide) (by rw [hslot]; try first | decide | omega) ?_
  let h_52 : Hp := hnew h_51 ((122 + 25 : Nat) : Int)
  obtain ⟨g53, hf⟩ := gif hf
  refine z_putF X fl_RX12_211 ow_X12 hnm dX12_init_219 g53.1 g53.2 rfl (by decide) ?_
  let h_53 : Hp := hput h_52 l0 44 (((122 + 25 : Nat) : Int))
  refine z_aload_n X dX12_init_222 0 rfl ?_
  refine z_sipush X dX12_init_223 ks_128 kc_128 ?_
  obtain ⟨g54, hf⟩ := gif hf
  refine z_newaI X hlin hs0 (n := 122 + 26) rfl aw_int dX12_init_226 g54.1 g54.2 (by rw [hcell]; decide) (by rw [hslot]; try first | decide | omega) ?_
  let h_54 : Hp := hnew h_53 ((122 + 26 : Nat) : Int)
  obtain ⟨g55, hf⟩ := gif hf
  refine z_putF X fl_RX12_214 ow_X12 hnm dX12_init_228 g55.1 g55.2 rfl (by decide) ?_
  let h_55 : Hp := hput h_54 l0 49 (((122 + 26 : Nat) : Int))
  refine z_aload_n X dX12_init_231 0 rfl ?_
  refine z_sipush X dX12_init_232 ks_128 kc_128 ?_
  obtain ⟨g56, hf⟩ := gif hf
  refine z_newaI X hlin hs0 (n := 122 + 27) rfl aw_int dX12_init_235 g56.1 g56.2 (by rw [hcell]; decide) (by rw [hslot]; try first | decide | omega) ?_
  let h_56 : Hp := hnew h_55 ((122 + 27 : Nat) : Int)
  obtain ⟨g57, hf⟩ := gif hf
  refine z_putF X fl_RX12_217 ow_X12 hnm dX12_init_237 g57.1 g57.2 rfl (by decide) ?_
  let h_57 : Hp := hput h_56 l0 50 (((122 + 27 : Nat) : Int))
  refine z_aload_n X dX12_init_240 0 rfl ?_
  refine z_sipush X dX12_init_241 ks_128 kc_128 ?_
  obtain ⟨g58, hf⟩ := gif hf
  refine z_newaI X hlin hs0 (n := 122 + 28) rfl aw_int dX12_init_244 g58.1 g58.2 (by rw [hcell]; decide) (by rw [hslot]; try first | decide | omega) ?_
  let h_58 : Hp := hnew h_57 ((122 + 28 : Nat) : Int)
  obtain ⟨g59, hf⟩ := gif hf
  refine z_putF X fl_RX12_220 ow_X12 hnm dX12_init_246 g59.1 g59.2 rfl (by decide) ?_
  let h_59 : Hp := hput h_58 l0 51 (((122 + 28 : Nat) : Int))
  refine z_aload_n X dX12_init_249 0 rfl ?_
  refine z_sipush X dX12_init_250 ks_128 kc_128 ?_
  obtain ⟨g60, hf⟩ := gif hf
  refine z_newaI X hlin hs0 (n := 122 + 29) rfl aw_int dX12_init_253 g60.1 g60.2 (by rw [hcell]; decide) (by rw [hslot]; try first | decide | omega) ?_
  let h_60 : Hp := hnew h_59 ((122 + 29 : Nat) : Int)
  obtain ⟨g61, hf⟩ := gif hf
  refine z_putF X fl_RX12_223 ow_X12 hnm dX12_init_255 g61.1 g61.2 rfl (by decide) ?_
  let h_61 : Hp := hput h_60 l0 52 (((122 + 29 : Nat) : Int))
  refine z_aload_n X dX12_init_258 0 rfl ?_
  refine z_sipush X dX12_init_259 ks_1536 kc_1536 ?_
  obtain ⟨g62, hf⟩ := gif hf
  refine z_newaI X hlin hs0 (n := 122 + 30) rfl aw_int dX12_init_262 g62.1 g62.2 (by rw [hcell]; decide) (by rw [hslot]; try first | decide | omega) ?_
  let h_62 : Hp := hnew h_61 ((122 + 30 : Nat) : Int)
  obtain ⟨g63, hf⟩ := gif hf
  refine z_putF X fl_RX12_226 ow_X12 hnm dX12_init_264 g63.1 g63.2 rfl (by decide) ?_
  let h_63 : Hp := hput h_62 l0 53 (((122 + 30 : Nat) : Int))
  refine z_aload_n X dX12_init_267 0 rfl ?_
  refine z_bipush X dX12_init_268 kb_8 kc_8 ?_
  obtain ⟨g64, hf⟩ := gif hf
  refine z_newaI X hlin hs0 (n := 122 + 31) rfl aw_int dX12_init_270 g64.1 g64.2 (by rw [hcell]; decide) (by rw [hslot]; try first | decide | omega) ?_
  let h_64 : Hp := hnew h_63 ((122 + 31 : Nat) : Int)
  obtain ⟨g65, hf⟩ := gif hf
  refine z_putF X fl_RX12_229 ow_X12 hnm dX12_init_272 g65.1 g65.2 rfl (by decide) ?_
  let h_65 : Hp := hput h_64 l0 54 (((122 + 31 : Nat) : Int))
  refine z_aload_n X dX12_init_275 0 rfl ?_
  refine z_bipush X dX12_init_276 kb_8 kc_8 ?_
  obtain ⟨g66, hf⟩ := gif hf
  refine z_newaI X hlin hs0 (n := 122 + 32) rfl aw_int dX12_init_278 g66.1 g66.2 (by rw [hcell]; decide) (by rw [hslot]; try first | decide | omega) ?_
  let h_66 : Hp := hnew h_65 ((122 + 32 : Nat) : Int)
  obtain ⟨g67, hf⟩ := gif hf
  refine z_putF X fl_RX12_232 ow_X12 hnm dX12_init_280 g67.1 g67.2 rfl (by decide) ?_
  let h_67 : Hp := hput h_66 l0 55 (((122 + 32 : Nat) : Int))
  refine z_aload_n X dX12_init_283 0 rfl ?_
  refine z_sipush X dX12_init_284 ks_8000 kc_8000 ?_
  obtain ⟨g68, hf⟩ := gif hf
  refine z_newaB X hlin hs0 (n := 122 + 33) rfl aw_byte dX12_init_287 g68.1 g68.2 (by rw [hcell]; decide) (by rw [hslot]; try first | decide | omega) ?_
  let h_68 : Hp := hnew h_67 ((122 + 33 : Nat) : Int)
  obtain ⟨g69, hf⟩ := gif hf
  refine z_putF X fl_RX12_235 ow_X12 hnm dX12_init_289 g69.1 g69.2 rfl (by decide) ?_
  let h_69 : Hp := hput h_68 l0 56 (((122 + 33 : Nat) : Int))
  refine z_aload_n X dX12_init_292 0 rfl ?_
  refine z_bipush X dX12_init_293 kb_120 kc_120 ?_
  obtain ⟨g70, hf⟩ := gif hf
  refine z_newaI X hlin hs0 (n := 122 + 34) rfl aw_int dX12_init_295 g70.1 g70.2 (by rw [hcell]; decide) (by rw [hslot]; try first | decide | omega) ?_
  let h_70 : Hp := hnew h_69 ((122 + 34 : Nat) : Int)
  obtain ⟨g71, hf⟩ := gif hf
  refine z_putF X fl_RX12_238 ow_X12 hnm dX12_init_297 g71.1 g71.2 rfl (by decide) ?_
  let h_71 : Hp := hput h_70 l0 59 (((122 + 34 : Nat) : Int))
  exact z_M_new_t X hd hcell hslot l0 _ y hf hK
