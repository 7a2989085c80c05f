set_option maxHeartbeats 4000000 in
set_option maxRecDepth 100000 in
theorem c_X_around {l : Launch} {g : GP} (d : Nat) (hd : 6 ≤ d) (l0 l1 l2 l3 l4 : Int) (h : Hp) (y : Int × Hp) (hf : X_around l0 l1 l2 l3 l4 h = some y) : zM l yX11_around cX11_around 5 (some .int) d 0 0 g 157 h [(2, l0), (0, l1), (0, l2), (0, l3), (0, l4)] 157 y.2 (some (0, y.1)) := by
  obtain ⟨d, rfl⟩ : ∃ k, d = k + 1 := ⟨d - 1, by omega⟩
  replace hd : 5 ≤ d := Nat.le_of_succ_le_succ hd
  refine z_start (by decide) (Nat.le_of_ble_eq_true rfl) (fun x X hK _ _ _ hl => ?_)
  show ZV g x 5 h 0 [(0, (2, l0)), (1, (0, l1)), (2, (0, l2)), (3, (0, l3)), (4, (0, l4))] []
  unfold X_around at hf
  refine z_aload_n X dX11_around_0 0 rfl ?_
  refine z_iload_n X dX11_around_1 1 rfl ?_
  refine z_iload_n X dX11_around_2 2 rfl ?_
  refine z_iload_n X dX11_around_3 3 rfl ?_
  refine z_iload X dX11_around_4 4 rfl ?_
  obtain ⟨g1, hf⟩ := gif hf
  obtain ⟨r6, hr6, hf⟩ := obE hf
  refine y_V1 X cv_RX11_214 dX11_around_6 g1 (c_X_isGap d (Nat.le_trans (by decide) hd) l0 l1 l2 l3 l4 h r6 hr6) (as := [(0, l1), (0, l2), (0, l3), (0, l4)]) rfl rfl (Nat.le_of_ble_eq_true rfl) z00 ?_
  refine z_if_ne X dX11_around_9 rfl (fun hc9 => ?_) (fun hc9 => ?_)
  · have hf := iff' hc9 hf
    refine z_aload_n X dX11_around_15 0 rfl ?_
    obtain ⟨r16, hr16, hf⟩ := obE hf
    refine y_V0 X cv_RX11_221 dX11_around_16 g1 (c_X_knowCounts d (Nat.le_trans (by decide) hd) l0 h r16 hr16) (as := []) rfl rfl (Nat.le_of_ble_eq_true rfl) z00 ?_
    refine z_aload_n X dX11_around_19 0 rfl ?_
    refine y_get X fl_RX11_64 dX11_around_20 g1 ?_
    refine z_aload_n X dX11_around_23 0 rfl ?_
    refine y_get X fl_RX11_100 dX11_around_24 g1 ?_
    obtain ⟨g2, hf⟩ := gif hf
    refine y_get X fl_RX11_155 dX11_around_27 g2 ?_
    refine z_iload_n X dX11_around_30 1 rfl ?_
    refine z_iload_n X dX11_around_31 2 rfl ?_
    refine z_iload_n X dX11_around_32 3 rfl ?_
    refine z_iload X dX11_around_33 4 rfl ?_
    obtain ⟨g3, hf⟩ := gif hf
    obtain ⟨r35, hr35, hf⟩ := obE hf
    refine y_V1 X cv_RX11_235 dX11_around_35 g3 (c_Ch_rootsOver d (Nat.le_trans (by decide) hd) (r16 l0 8) (r16 (r16 l0 15) 3) l1 l2 l3 l4 r16 r35 hr35) (as := [(0, r16 (r16 l0 15) 3), (0, l1), (0, l2), (0, l3), (0, l4)]) rfl rfl (Nat.le_of_ble_eq_true rfl) z00 ?_
    cases hf
    exact z_iret X hK dX11_around_38
  · have hf := ift hc9 hf
    refine z_bipush X dX11_around_12 kb_m2 kc_m2 ?_
    cases hf
    exact z_iret X hK dX11_around_14
set_option maxHeartbeats 4000000 in
set_option maxRecDepth 100000 in
theorem c_X_countedWays {l : Launch} {g : GP} (d : Nat) (hd : 6 ≤ d) (l0 : Int) (h : Hp) (y : Int × Hp) (hf : X_countedWays l0 h = some y) : zM l yX11_countedWays cX11_countedWays 1 (some .long) d 0 0 g 157 h [(2, l0)] 157 y.2 (some (1, y.1)) := by
  obtain ⟨d, rfl⟩ : ∃ k, d = k + 1 := ⟨d - 1, by omega⟩
  replace hd : 5 ≤ d := Nat.le_of_succ_le_succ hd
  refine z_start (by decide) (Nat.le_of_ble_eq_true rfl) (fun x X hK _ _ _ hl => ?_)
  show ZV g x 1 h 0 [(0, (2, l0))] []
  unfold X_countedWays at hf
  refine z_aload_n X dX11_countedWays_0 0 rfl ?_
  obtain ⟨g1, hf⟩ := gif hf
  obtain ⟨r1, hr1, hf⟩ := obE hf
  refine y_V0 X cv_RX11_221 dX11_countedWays_1 g1 (c_X_knowCounts d (Nat.le_trans (by decide) hd) l0 h r1 hr1) (as := []) rfl rfl (Nat.le_of_ble_eq_true rfl) z00 ?_
  refine z_aload_n X dX11_countedWays_4 0 rfl ?_
  refine y_get X fl_RX11_64 dX11_countedWays_5 g1 ?_
  refine z_aload_n X dX11_countedWays_8 0 rfl ?_
  refine y_get X fl_RX11_21 dX11_countedWays_9 g1 ?_
  obtain ⟨g2, hf⟩ := gif hf
  refine y_get X fl_RX11_118 dX11_countedWays_12 g2 ?_
  obtain ⟨g3, hf⟩ := gif hf
  obtain ⟨r15, hr15, hf⟩ := obE hf
  refine y_V1 X cv_RX11_243 dX11_countedWays_15 g3 (c_Ch_atStart d (Nat.le_trans (by decide) hd) (r1 l0 8) (r1 (r1 l0 2) 1) r1 r15 hr15) (as := [(0, r1 (r1 l0 2) 1)]) rfl rfl (Nat.le_of_ble_eq_true rfl) z00 ?_
  cases hf
  exact z_lret X hK dX11_countedWays_18
set_option maxHeartbeats 4000000 in
set_option maxRecDepth 100000 in
theorem c_X_reads {l : Launch} {g : GP} (d : Nat) (hd : 7 ≤ d) (l0 : Int) (h : Hp) (y : Int × Hp) (hf : X_reads l0 h = some y) : zM l yX11_reads cX11_reads 1 (some .int) d 0 0 g 157 h [(2, l0)] 157 y.2 (some (0, y.1)) := by
  obtain ⟨d, rfl⟩ : ∃ k, d = k + 1 := ⟨d - 1, by omega⟩
  replace hd : 6 ≤ d := Nat.le_of_succ_le_succ hd
  refine z_start (by decide) (Nat.le_of_ble_eq_true rfl) (fun x X hK _ _ _ hl => ?_)
  show ZV g x 1 h 0 [(0, (2, l0))] []
  unfold X_reads at hf
  refine z_aload_n X dX11_reads_0 0 rfl ?_
  obtain ⟨g1, hf⟩ := gif hf
  obtain ⟨r1, hr1, hf⟩ := obE hf
  refine y_V1 X cv_RX11_239 dX11_reads_1 g1 (c_X_countedWays d (Nat.le_trans (by decide) hd) l0 h r1 hr1) (as := []) rfl rfl (Nat.le_of_ble_eq_true rfl) z00 ?_
  refine z_lconst0 X dX11_reads_4 ?_
  refine z_l_ne X dX11_reads_5 dX11_reads_6 rfl (fun hc5 => ?_) (fun hc5 => ?_)
  · rw [if_neg hc5] at hf
    refine z_iconst X dX11_reads_13 kc_1 ?_
    cases hf
    exact z_iret X hK dX11_reads_14
  · rw [if_pos hc5] at hf
    refine z_iconst X dX11_reads_9 kc_0 ?_
    refine z_goto X dX11_reads_10 rfl ?_
    cases hf
    exact z_iret X hK dX11_reads_14
set_option maxHeartbeats 4000000 in
set_option maxRecDepth 100000 in
theorem z_X_heads_j38 {g : GP} {x : CX} {d : Nat} (X : zX g x RX11 cX11_heads 3 (d + 1)) (hd : 5 ≤ d) (l0 l1 l2 : Int) (h : Hp) (y : (Int × Int) ⊕ (Int)) (hf : X_heads_j38 l0 l1 l2 h = some y) (E : Int → Prop) (hx0 : ∀ e : Int, E (e) → ZV g x 3 h 44 [(1, (0, e))] []) (hk : z_sum (fun q : Int × Int => ZV g x 3 h 8 [(0, (2, l0)), (1, (0, q.1)), (2, (0, q.2))] []) E y) : ZV g x 3 h 38 [(0, (2, l0)), (1, (0, l1)), (2, (0, l2))] [] := by
  unfold X_heads_j38 at hf
  refine z_iinc X dX11_heads_38 2 rfl (by decide) (ls' := [(2, (0, w32 (l2 + 1))), (0, (2, l0)), (1, (0, l1))]) rfl ?_
  refine z_goto X dX11_heads_41 rfl ?_
  cases hf
  exact z_weak [1, 2, 0] rfl hk
set_option maxHeartbeats 4000000 in
set_option maxRecDepth 100000 in
theorem z_X_heads_L8 {g : GP} {x : CX} {d : Nat} (X : zX g x RX11 cX11_heads 3 (d + 1)) (hd : 5 ≤ d) (l0 : Int) (h : Hp) (E : Int → Prop) (hx0 : ∀ e : Int, E (e) → ZV g x 3 h 44 [(1, (0, e))] []) (l1 l2 : Int) (y : (Int × Int) ⊕ (Int)) (hf : X_heads_L8 l0 h l1 l2 = some y) (hk : z_sum (fun q : Int × Int => ZV g x 3 h 8 [(0, (2, l0)), (1, (0, q.1)), (2, (0, q.2))] []) E y) : ZV g x 3 h 8 [(0, (2, l0)), (1, (0, l1)), (2, (0, l2))] [] := by
  unfold X_heads_L8 at hf
  refine z_iload_n X dX11_heads_8 2 rfl ?_
  refine z_aload_n X dX11_heads_9 0 rfl ?_
  obtain ⟨g2, hf⟩ := gif hf
  refine y_get X fl_RX11_21 dX11_heads_10 g2 ?_
  obtain ⟨g3, hf⟩ := gif hf
  refine y_get X fl_RX11_118 dX11_heads_13 g3 ?_
  refine z_icmp_gt X dX11_heads_16 rfl (fun hc16 => ?_) (fun hc16 => ?_)
  · have hf := ift hc16 hf
    cases hf
    exact z_weak [1] rfl (hx0 _ hk)
  · have hf := iff' hc16 hf
    refine z_aload_n X dX11_heads_19 0 rfl ?_
    refine y_get X fl_RX11_64 dX11_heads_20 g2 ?_
    refine z_iload_n X dX11_heads_23 2 rfl ?_
    obtain ⟨g4, hf⟩ := gif hf
    obtain ⟨r24, hr24, hf⟩ := obE hf
    refine y_V1 X cv_RX11_243 dX11_heads_24 g4 (c_Ch_atStart d (Nat.le_trans (by decide) hd) (h l0 8) l2 h r24 hr24) (as := [(0, l2)]) rfl rfl (Nat.le_of_ble_eq_true rfl) z00 ?_
    refine z_lconst0 X dX11_heads_27 ?_
    refine z_l_eq X dX11_heads_28 dX11_heads_29 rfl (fun hc28 => ?_) (fun hc28 => ?_)
    · rw [if_pos hc28] at hf
      exact (z_X_heads_j38 X hd l0 l1 l2 h _ hf E hx0 hk)
    · rw [if_neg hc28] at hf
      refine z_iload_n X dX11_heads_32 1 rfl ?_
      refine z_iconst X dX11_heads_33 kc_1 ?_
      refine z_iload_n X dX11_heads_34 2 rfl ?_
      refine z_ishl X dX11_heads_35 ?_
      refine z_ior X dX11_heads_36 ?_
      refine z_istore_n X dX11_heads_37 (by decide) (ls' := [(1, (0, i_or l1 (i_shl 1 l2))), (0, (2, l0)), (2, (0, l2))]) rfl ?_
      exact z_weak [1, 0, 2] rfl (z_X_heads_j38 X hd l0 (i_or l1 (i_shl 1 l2)) l2 h _ hf E hx0 hk)
set_option maxHeartbeats 4000000 in
set_option maxRecDepth 100000 in
theorem c_X_heads {l : Launch} {g : GP} (d : Nat) (hd : 6 ≤ d) (l0 : Int) (h : Hp) (y : Int × Hp) (hf : X_heads l0 h = some y) : zM l yX11_heads cX11_heads 3 (some .int) d 0 0 g 157 h [(2, l0)] 157 y.2 (some (0, y.1)) := by
  obtain ⟨d, rfl⟩ : ∃ k, d = k + 1 := ⟨d - 1, by omega⟩
  replace hd : 5 ≤ d := Nat.le_of_succ_le_succ hd
  refine z_start (by decide) (Nat.le_of_ble_eq_true rfl) (fun x X hK _ _ _ hl => ?_)
  show ZV g x 3 h 0 [(0, (2, l0))] []
  unfold X_heads at hf
  refine z_aload_n X dX11_heads_0 0 rfl ?_
  obtain ⟨g1, hf⟩ := gif hf
  obtain ⟨r1, hr1, hf⟩ := obE hf
  refine y_V0 X cv_RX11_221 dX11_heads_1 g1 (c_X_knowCounts d (Nat.le_trans (by decide) hd) l0 h r1 hr1) (as := []) rfl rfl (Nat.le_of_ble_eq_true rfl) z00 ?_
  refine z_iconst X dX11_heads_4 kc_0 ?_
  refine z_istore_n X dX11_heads_5 (by decide) (ls' := [(1, (0, 0)), (0, (2, l0))]) rfl ?_
  refine z_iconst X dX11_heads_6 kc_0 ?_
  refine z_istore_n X dX11_heads_7 (by decide) (ls' := [(2, (0, 0)), (1, (0, 0)), (0, (2, l0))]) rfl ?_
  obtain ⟨q8, hq8, hf⟩ := obE hf
  have hx8_0 : ∀ e44 : Int, (e44 : Int) = q8 → ZV g x 3 r1 44 [(1, (0, e44))] [] := by
    intro e44 hq
    subst hq
    refine z_iload_n X dX11_heads_44 0 rfl ?_
    cases hf
    exact z_iret X hK dX11_heads_45
  exact z_weak [2, 1, 0] rfl (z_loop (Z := (fun q : Int × Int => ZV g x 3 r1 8 [(0, (2, l0)), (1, (0, q.1)), (2, (0, q.2))] [])) (E := fun q => q = q8) (fun q y hb hk => z_X_heads_L8 X hd l0 r1 (fun q => q = q8) hx8_0 q.1 q.2 y hb hk) LN (0, 0) q8 hq8 rfl)
set_option maxHeartbeats 4000000 in
set_option maxRecDepth 100000 in
theorem c_X_ways {l : Launch} {g : GP} (d : Nat) (hd : 7 ≤ d) (l0 : Int) (h : Hp) (y : Int × Hp) (hf : X_ways l0 h = some y) : zM l yX11_ways cX11_ways 1 (some .long) d 0 0 g 157 h [(2, l0)] 157 y.2 (some (1, y.1)) := by
  obtain ⟨d, rfl⟩ : ∃ k, d = k + 1 := ⟨d - 1, by omega⟩
  replace hd : 6 ≤ d := Nat.le_of_succ_le_succ hd
  refine z_start (by decide) (Nat.le_of_ble_eq_true rfl) (fun x X hK _ _ _ hl => ?_)
  show ZV g x 1 h 0 [(0, (2, l0))] []
  unfold X_ways at hf
  refine z_aload_n X dX11_ways_0 0 rfl ?_
  obtain ⟨g1, hf⟩ := gif hf
  obtain ⟨r1, hr1, hf⟩ := obE hf
  refine y_V1 X cv_RX11_239 dX11_ways_1 g1 (c_X_countedWays d (Nat.le_trans (by decide) hd) l0 h r1 hr1) (as := []) rfl rfl (Nat.le_of_ble_eq_true rfl) z00 ?_
  obtain ⟨r4, hr4, hf⟩ := obE hf
  refine y_S1 X cs_RX11_228 dX11_ways_4 (c_X_shown d (Nat.zero_le _) r1.1 r1.2 r4 hr4) (as := [(1, r1.1)]) rfl rfl (Nat.le_of_ble_eq_true rfl) z00 ?_
  cases hf
  exact z_lret X hK dX11_ways_7
set_option maxHeartbeats 4000000 in
set_option maxRecDepth 100000 in
theorem c_X_without {l : Launch} {g : GP} (d : Nat) (hd : 5 ≤ d) (l0 l1 : Int) (h : Hp) (y : Int × Hp) (hf : X_without l0 l1 h = some y) : zM l yX11_without cX11_without 2 (some .long) d 0 0 g 157 h [(2, l0), (0, l1)] 157 y.2 (some (1, y.1)) := by
  obtain ⟨d, rfl⟩ : ∃ k, d = k + 1 := ⟨d - 1, by omega⟩
  replace hd : 4 ≤ d := Nat.le_of_succ_le_succ hd
  refine z_start (by decide) (Nat.le_of_ble_eq_true rfl) (fun x X hK _ _ _ hl => ?_)
  show ZV g x 2 h 0 [(0, (2, l0)), (1, (0, l1))] []
  unfold X_without at hf
  refine z_aload_n X dX11_without_0 0 rfl ?_
  obtain ⟨g1, hf⟩ := gif hf
  refine y_get X fl_RX11_100 dX11_without_1 g1 ?_
  refine z_iload_n X dX11_without_4 1 rfl ?_
  obtain ⟨g2, hf⟩ := gif hf
  obtain ⟨r5, hr5, hf⟩ := obE hf
  refine y_V1 X cv_RX11_167 dX11_without_5 g2 (c_Gr_hasTree d (Nat.zero_le _) (h l0 15) l1 h r5 hr5) (as := [(0, l1)]) rfl rfl (Nat.le_of_ble_eq_true rfl) z00 ?_
  refine z_if_ne X dX11_without_8 rfl (fun hc8 => ?_) (fun hc8 => ?_)
  · have hf := iff' hc8 hf
    refine z_aload_n X dX11_without_15 0 rfl ?_
    refine y_get X fl_RX11_68 dX11_without_16 g1 ?_
    refine z_aload_n X dX11_without_19 0 rfl ?_
    refine y_get X fl_RX11_100 dX11_without_20 g1 ?_
    refine z_aload_n X dX11_without_23 0 rfl ?_
    refine y_get X fl_RX11_100 dX11_without_24 g1 ?_
    refine y_get X fl_RX11_158 dX11_without_27 g2 ?_
    refine z_iconst X dX11_without_30 kc_1 ?_
    refine z_iload_n X dX11_without_31 1 rfl ?_
    refine z_ishl X dX11_without_32 ?_
    refine z_ior X dX11_without_33 ?_
    refine z_aload_n X dX11_without_34 0 rfl ?_
    refine y_get X fl_RX11_21 dX11_without_35 g1 ?_
    obtain ⟨g3, hf⟩ := gif hf
    refine y_get X fl_RX11_118 dX11_without_38 g3 ?_
    refine z_aload_n X dX11_without_41 0 rfl ?_
    refine y_get X fl_RX11_43 dX11_without_42 g1 ?_
    obtain ⟨g4, hf⟩ := gif hf
    obtain ⟨r45, hr45, hf⟩ := obE hf
    refine y_V0 X cv_RX11_247 dX11_without_45 g4 (c_Ch_fill d (Nat.le_trans (by decide) hd) (h l0 9) (h l0 15) (i_or (h (h l0 15) 4) (i_shl 1 l1)) (h (h l0 2) 1) (h l0 5) h r45 hr45) (as := [(2, h l0 15), (0, i_or (h (h l0 15) 4) (i_shl 1 l1)), (0, h (h l0 2) 1), (2, h l0 5)]) rfl rfl (Nat.le_of_ble_eq_true rfl) z00 ?_
    refine z_aload_n X dX11_without_48 0 rfl ?_
    refine y_get X fl_RX11_68 dX11_without_49 g1 ?_
    refine z_aload_n X dX11_without_52 0 rfl ?_
    refine y_get X fl_RX11_21 dX11_without_53 g1 ?_
    obtain ⟨g5, hf⟩ := gif hf
    refine y_get X fl_RX11_118 dX11_without_56 g5 ?_
    obtain ⟨g6, hf⟩ := gif hf
    obtain ⟨r59, hr59, hf⟩ := obE hf
    refine y_V1 X cv_RX11_243 dX11_without_59 g6 (c_Ch_atStart d (Nat.le_trans (by decide) hd) (r45 l0 9) (r45 (r45 l0 2) 1) r45 r59 hr59) (as := [(0, r45 (r45 l0 2) 1)]) rfl rfl (Nat.le_of_ble_eq_true rfl) z00 ?_
    obtain ⟨r62, hr62, hf⟩ := obE hf
    refine y_S1 X cs_RX11_228 dX11_without_62 (c_X_shown d (Nat.zero_le _) r59 r45 r62 hr62) (as := [(1, r59)]) rfl rfl (Nat.le_of_ble_eq_true rfl) z00 ?_
    cases hf
    exact z_lret X hK dX11_without_65
  · have hf := ift hc8 hf
    refine z_ldc2 X kj_RX11_212 kl_m2 dX11_without_11 ?_
    cases hf
    exact z_lret X hK dX11_without_14
set_option maxHeartbeats 4000000 in
set_option maxRecDepth 100000 in
theorem c_X_knowSummary {l : Launch} {g : GP} (d : Nat) (hd : 5 ≤ d) (l0 : Int) (h : Hp) (y : Hp) (hf : X_knowSummary l0 h = some y) : zM l yX11_knowSummary cX11_knowSummary 1 none d 0 0 g 157 h [(2, l0)] 157 y none := by
  obtain ⟨d, rfl⟩ : ∃ k, d = k + 1 := ⟨d - 1, by omega⟩
  replace hd : 4 ≤ d := Nat.le_of_succ_le_succ hd
  refine z_start (by decide) (Nat.le_of_ble_eq_true rfl) (fun x X hK _ _ _ hl => ?_)
  show ZV g x 1 h 0 [(0, (2, l0))] []
  unfold X_knowSummary at hf
  refine z_aload_n X dX11_knowSummary_0 0 rfl ?_
  refine z_sipush X dX11_knowSummary_1 ks_128 kc_128 ?_
  obtain ⟨g1, hf⟩ := gif hf
  obtain ⟨r4, hr4, hf⟩ := obE hf
  refine y_V1 X cv_RX11_352 dX11_knowSummary_4 g1 (c_X_learns d (Nat.zero_le _) l0 128 h r4 hr4) (as := [(0, 128)]) rfl rfl (Nat.le_of_ble_eq_true rfl) z00 ?_
  refine z_if_eq X dX11_knowSummary_7 rfl (fun hc7 => ?_) (fun hc7 => ?_)
  · have hf := ift hc7 hf
    cases hf
    exact z_vret X hK dX11_knowSummary_57
  · have hf := iff' hc7 hf
    refine z_aload_n X dX11_knowSummary_10 0 rfl ?_
    refine y_get X fl_RX11_68 dX11_knowSummary_11 g1 ?_
    refine z_aload_n X dX11_knowSummary_14 0 rfl ?_
    refine y_get X fl_RX11_100 dX11_knowSummary_15 g1 ?_
    refine z_aload_n X dX11_knowSummary_18 0 rfl ?_
    refine y_get X fl_RX11_100 dX11_knowSummary_19 g1 ?_
    obtain ⟨g2, hf⟩ := gif hf
    refine y_get X fl_RX11_158 dX11_knowSummary_22 g2 ?_
    refine z_aload_n X dX11_knowSummary_25 0 rfl ?_
    refine y_get X fl_RX11_21 dX11_knowSummary_26 g1 ?_
    obtain ⟨g3, hf⟩ := gif hf
    refine y_get X fl_RX11_118 dX11_knowSummary_29 g3 ?_
    refine z_aload_n X dX11_knowSummary_32 0 rfl ?_
    refine y_get X fl_RX11_50 dX11_knowSummary_33 g1 ?_
    obtain ⟨g4, hf⟩ := gif hf
    obtain ⟨r36, hr36, hf⟩ := obE hf
    refine y_V0 X cv_RX11_247 dX11_knowSummary_36 g4 (c_Ch_fill d (Nat.le_trans (by decide) hd) (r4.2 l0 9) (r4.2 l0 15) (r4.2 (r4.2 l0 15) 4) (r4.2 (r4.2 l0 2) 1) (r4.2 l0 6) r4.2 r36 hr36) (as := [(2, r4.2 l0 15), (0, r4.2 (r4.2 l0 15) 4), (0, r4.2 (r4.2 l0 2) 1), (2, r4.2 l0 6)]) rfl rfl (Nat.le_of_ble_eq_true rfl) z00 ?_
    refine z_aload_n X dX11_knowSummary_39 0 rfl ?_
    refine z_aload_n X dX11_knowSummary_40 0 rfl ?_
    refine y_get X fl_RX11_68 dX11_knowSummary_41 g1 ?_
    refine z_aload_n X dX11_knowSummary_44 0 rfl ?_
    refine y_get X fl_RX11_21 dX11_knowSummary_45 g1 ?_
    obtain ⟨g5, hf⟩ := gif hf
    refine y_get X fl_RX11_118 dX11_knowSummary_48 g5 ?_
    obtain ⟨g6, hf⟩ := gif hf
    obtain ⟨r51, hr51, hf⟩ := obE hf
    refine y_V1 X cv_RX11_243 dX11_knowSummary_51 g6 (c_Ch_atStart d (Nat.le_trans (by decide) hd) (r36 l0 9) (r36 (r36 l0 2) 1) r36 r51 hr51) (as := [(0, r36 (r36 l0 2) 1)]) rfl rfl (Nat.le_of_ble_eq_true rfl) z00 ?_
    refine y_put X fl_RX11_254 dX11_knowSummary_54 g1 rfl (by decide) ?_
    let h_1 : Hp := hput r36 l0 18 r51
    cases hf
    exact z_vret X hK dX11_knowSummary_57
set_option maxHeartbeats 4000000 in
set_option maxRecDepth 100000 in
theorem c_X_lengths {l : Launch} {g : GP} (d : Nat) (hd : 6 ≤ d) (l0 l1 : Int) (h : Hp) (y : Int × Hp) (hf : X_lengths l0 l1 h = some y) : zM l yX11_lengths cX11_lengths 2 (some .int) d 0 0 g 157 h [(2, l0), (0, l1)] 157 y.2 (some (0, y.1)) := by
  obtain ⟨d, rfl⟩ : ∃ k, d = k + 1 := ⟨d - 1, by omega⟩
  replace hd : 5 ≤ d := Nat.le_of_succ_le_succ hd
  refine z_start (by decide) (Nat.le_of_ble_eq_true rfl) (fun x X hK _ _ _ hl => ?_)
  show ZV g x 2 h 0 [(0, (2, l0)), (1, (0, l1))] []
  unfold X_lengths at hf
  refine z_iload_n X dX11_lengths_0 1 rfl ?_
  refine z_if_lt X dX11_lengths_1 rfl (fun hc1 => ?_) (fun hc1 => ?_)
  · have hf := ift hc1 hf
    refine z_bipush X dX11_lengths_9 kb_m2 kc_m2 ?_
    cases hf
    exact z_iret X hK dX11_lengths_11
  · have hf := iff' hc1 hf
    refine z_iload_n X dX11_lengths_4 1 rfl ?_
    refine z_iconst X dX11_lengths_5 kc_1 ?_
    refine z_icmp_le X dX11_lengths_6 rfl (fun hc6 => ?_) (fun hc6 => ?_)
    · have hf := ift hc6 hf
      refine z_aload_n X dX11_lengths_12 0 rfl ?_
      obtain ⟨g1, hf⟩ := gif hf
      obtain ⟨r13, hr13, hf⟩ := obE hf
      refine y_V0 X cv_RX11_251 dX11_lengths_13 g1 (c_X_knowSummary d (Nat.le_trans (by decide) hd) l0 h r13 hr13) (as := []) rfl rfl (Nat.le_of_ble_eq_true rfl) z00 ?_
      refine z_aload_n X dX11_lengths_16 0 rfl ?_
      refine y_get X fl_RX11_254 dX11_lengths_17 g1 ?_
      refine z_lconst0 X dX11_lengths_20 ?_
      refine z_l_ne X dX11_lengths_21 dX11_lengths_22 rfl (fun hc21 => ?_) (fun hc21 => ?_)
      · have hf := iff' hc21 hf
        refine z_iload_n X dX11_lengths_27 1 rfl ?_
        refine z_if_ne X dX11_lengths_28 rfl (fun hc28 => ?_) (fun hc28 => ?_)
        · have hf := iff' hc28 hf
          refine z_aload_n X dX11_lengths_41 0 rfl ?_
          refine y_get X fl_RX11_254 dX11_lengths_42 g1 ?_
          obtain ⟨r45, hr45, hf⟩ := obE hf
          refine y_S1 X cs_RX11_262 dX11_lengths_45 (c_Su_most d (Nat.zero_le _) (r13 l0 18) r13 r45 hr45) (as := [(1, r13 l0 18)]) rfl rfl (Nat.le_of_ble_eq_true rfl) z00 ?_
          cases hf
          exact z_iret X hK dX11_lengths_48
        · have hf := ift hc28 hf
          refine z_aload_n X dX11_lengths_31 0 rfl ?_
          refine y_get X fl_RX11_254 dX11_lengths_32 g1 ?_
          obtain ⟨r35, hr35, hf⟩ := obE hf
          refine y_S1 X cs_RX11_258 dX11_lengths_35 (c_Su_fewest d (Nat.zero_le _) (r13 l0 18) r13 r35 hr35) (as := [(1, r13 l0 18)]) rfl rfl (Nat.le_of_ble_eq_true rfl) z00 ?_
          refine z_goto X dX11_lengths_38 rfl ?_
          cases hf
          exact z_iret X hK dX11_lengths_48
      · have hf := ift hc21 hf
        refine z_iconst X dX11_lengths_25 kc_m1 ?_
        cases hf
        exact z_iret X hK dX11_lengths_26
    · have hf := iff' hc6 hf
      refine z_bipush X dX11_lengths_9 kb_m2 kc_m2 ?_
      cases hf
      exact z_iret X hK dX11_lengths_11
set_option maxHeartbeats 4000000 in
set_option maxRecDepth 100000 in
theorem z_X_findWay_j69 {g : GP} {x : CX} {d : Nat} (X : zX g x RX11 cX11_findWay 5 (d + 1)) (hd : 5 ≤ d) (l0 l1 : Int) (h : Hp) (y : Int × Hp) (hf : X_findWay_j69 l0 l1 h = some y) (hK : zE g x (some .int) 0 0 157 y.2 (some (0, y.1))) : ZV g x 5 h 69 [(0, (2, l0)), (1, (1, l1))] [] := by
  unfold X_findWay_j69 at hf
  refine z_aload_n X dX11_findWay_69 0 rfl ?_
  obtain ⟨g4, hf⟩ := gif hf
  refine y_get X fl_RX11_81 dX11_findWay_70 g4 ?_
  refine z_lload_n X dX11_findWay_73 1 rfl ?_
  obtain ⟨g5, hf⟩ := gif hf
  refine y_put X fl_RX11_355 dX11_findWay_74 g5 rfl (by decide) ?_
  let h_1 : Hp := hput h (h l0 11) 0 l1
  refine z_aload_n X dX11_findWay_77 0 rfl ?_
  refine y_get X fl_RX11_74 dX11_findWay_78 g4 ?_
  refine z_aload_n X dX11_findWay_81 0 rfl ?_
  refine y_get X fl_RX11_64 dX11_findWay_82 g4 ?_
  refine z_lload_n X dX11_findWay_85 1 rfl ?_
  refine z_aload_n X dX11_findWay_86 0 rfl ?_
  refine y_get X fl_RX11_81 dX11_findWay_87 g4 ?_
  obtain ⟨g6, hf⟩ := gif hf
  obtain ⟨r90, hr90, hf⟩ := obE hf
  refine y_V0 X cv_RX11_358 dX11_findWay_90 g6 (c_WF_find d (Nat.le_trans (by decide) hd) (h_1 l0 10) (h_1 l0 8) l1 (h_1 l0 11) h_1 r90 hr90) (as := [(2, h_1 l0 8), (1, l1), (2, h_1 l0 11)]) rfl rfl (Nat.le_of_ble_eq_true rfl) z00 ?_
  refine z_aload_n X dX11_findWay_93 0 rfl ?_
  refine y_get X fl_RX11_81 dX11_findWay_94 g4 ?_
  refine z_aload_n X dX11_findWay_97 0 rfl ?_
  refine y_get X fl_RX11_100 dX11_findWay_98 g4 ?_
  obtain ⟨g7, hf⟩ := gif hf
  obtain ⟨r101, hr101, hf⟩ := obE hf
  refine y_V0 X cv_RX11_321 dX11_findWay_101 g7 (c_Wy_unfold d (Nat.le_trans (by decide) hd) (r90 l0 11) (r90 l0 15) r90 r101 hr101) (as := [(2, r90 l0 15)]) rfl rfl (Nat.le_of_ble_eq_true rfl) z00 ?_
  refine z_iconst X dX11_findWay_104 kc_0 ?_
  cases hf
  exact z_iret X hK dX11_findWay_105
set_option maxHeartbeats 4000000 in
set_option maxRecDepth 100000 in
theorem c_X_findWay {l : Launch} {g : GP} (d : Nat) (hd : 6 ≤ d) (l0 l1 : Int) (h : Hp) (y : Int × Hp) (hf : X_findWay l0 l1 h = some y) : zM l yX11_findWay cX11_findWay 5 (some .int) d 0 0 g 157 h [(2, l0), (1, l1)] 157 y.2 (some (0, y.1)) := by
  obtain ⟨d, rfl⟩ : ∃ k, d = k + 1 := ⟨d - 1, by omega⟩
  replace hd : 5 ≤ d := Nat.le_of_succ_le_succ hd
  refine z_start (by decide) (Nat.le_of_ble_eq_true rfl) (fun x X hK _ _ _ hl => ?_)
  show ZV g x 5 h 0 [(0, (2, l0)), (1, (1, l1))] []
  unfold X_findWay at hf
  refine z_lload_n X dX11_findWay_0 1 rfl ?_
  refine z_lconst0 X dX11_findWay_1 ?_
  refine z_l_ge X dX11_findWay_2 dX11_findWay_3 rfl (fun hc2 => ?_) (fun hc2 => ?_)
  · have hf := ift hc2 hf
    refine z_aload_n X dX11_findWay_9 0 rfl ?_
    obtain ⟨g1, hf⟩ := gif hf
    obtain ⟨r10, hr10, hf⟩ := obE hf
    refine y_V0 X cv_RX11_221 dX11_findWay_10 g1 (c_X_knowCounts d (Nat.le_trans (by decide) hd) l0 h r10 hr10) (as := []) rfl rfl (Nat.le_of_ble_eq_true rfl) z00 ?_
    refine z_aload_n X dX11_findWay_13 0 rfl ?_
    refine y_get X fl_RX11_64 dX11_findWay_14 g1 ?_
    refine z_aload_n X dX11_findWay_17 0 rfl ?_
    refine y_get X fl_RX11_21 dX11_findWay_18 g1 ?_
    obtain ⟨g2, hf⟩ := gif hf
    refine y_get X fl_RX11_118 dX11_findWay_21 g2 ?_
    obtain ⟨g3, hf⟩ := gif hf
    obtain ⟨r24, hr24, hf⟩ := obE hf
    refine y_V1 X cv_RX11_243 dX11_findWay_24 g3 (c_Ch_atStart d (Nat.le_trans (by decide) hd) (r10 l0 8) (r10 (r10 l0 2) 1) r10 r24 hr24) (as := [(0, r10 (r10 l0 2) 1)]) rfl rfl (Nat.le_of_ble_eq_true rfl) z00 ?_
    refine z_lstore_n X dX11_findWay_27 (by decide) (ls' := [(3, (1, r24)), (0, (2, l0)), (1, (1, l1))]) rfl ?_
    refine z_lload_n X dX11_findWay_28 0 rfl ?_
    refine z_ldc2 X kj_RX11_348 kl_1000000000000000 dX11_findWay_29 ?_
    refine z_l_le X dX11_findWay_32 dX11_findWay_33 rfl (fun hc32 => ?_) (fun hc32 => ?_)
    · have hf := ift hc32 hf
      refine z_lload_n X dX11_findWay_39 2 rfl ?_
      refine z_lload_n X dX11_findWay_40 0 rfl ?_
      refine z_l_lt X dX11_findWay_41 dX11_findWay_42 rfl (fun hc41 => ?_) (fun hc41 => ?_)
      · have hf := ift hc41 hf
        refine z_aload_n X dX11_findWay_47 1 rfl ?_
        refine z_sipush X dX11_findWay_48 ks_256 kc_256 ?_
        obtain ⟨r51, hr51, hf⟩ := obE hf
        refine y_V1 X cv_RX11_352 dX11_findWay_51 g1 (c_X_learns d (Nat.zero_le _) l0 256 r10 r51 hr51) (as := [(0, 256)]) rfl rfl (Nat.le_of_ble_eq_true rfl) z00 ?_
        refine z_if_ne X dX11_findWay_54 rfl (fun hc54 => ?_) (fun hc54 => ?_)
        · have hf := iff' hc54 hf
          exact z_weak [1, 2] rfl (z_X_findWay_j69 X hd l0 l1 r51.2 _ hf hK)
        · have hf := ift hc54 hf
          refine z_aload_n X dX11_findWay_57 1 rfl ?_
          refine y_get X fl_RX11_81 dX11_findWay_58 g1 ?_
          obtain ⟨g8, hf⟩ := gif hf
          refine y_get X fl_RX11_355 dX11_findWay_61 g8 ?_
          refine z_lload_n X dX11_findWay_64 2 rfl ?_
          refine z_l_eq X dX11_findWay_65 dX11_findWay_66 rfl (fun hc65 => ?_) (fun hc65 => ?_)
          · have hf := ift hc65 hf
            refine z_iconst X dX11_findWay_104 kc_0 ?_
            cases hf
            exact z_iret X hK dX11_findWay_105
          · have hf := iff' hc65 hf
            exact z_weak [1, 2] rfl (z_X_findWay_j69 X hd l0 l1 r51.2 _ hf hK)
      · have hf := iff' hc41 hf
        refine z_iconst X dX11_findWay_45 kc_m1 ?_
        cases hf
        exact z_iret X hK dX11_findWay_46
    · have hf := iff' hc32 hf
      refine z_bipush X dX11_findWay_36 kb_m3 kc_m3 ?_
      cases hf
      exact z_iret X hK dX11_findWay_38
  · have hf := iff' hc2 hf
    refine z_bipush X dX11_findWay_6 kb_m2 kc_m2 ?_
    cases hf
    exact z_iret X hK dX11_findWay_8
set_option maxHeartbeats 4000000 in
set_option maxRecDepth 100000 in
theorem c_X_steps {l : Launch} {g : GP} (d : Nat) (hd : 7 ≤ d) (l0 l1 : Int) (h : Hp) (y : Int × Hp) (hf : X_steps l0 l1 h = some y) : zM l yX11_steps cX11_steps 4 (some .int) d 0 0 g 157 h [(2, l0), (1, l1)] 157 y.2 (some (0, y.1)) := by
  obtain ⟨d, rfl⟩ : ∃ k, d = k + 1 := ⟨d - 1, by omega⟩
  replace hd : 6 ≤ d := Nat.le_of_succ_le_succ hd
  refine z_start (by decide) (Nat.le_of_ble_eq_true rfl) (fun x X hK _ _ _ hl => ?_)
  show ZV g x 4 h 0 [(0, (2, l0)), (1, (1, l1))] []
  unfold X_steps at hf
  refine z_aload_n X dX11_steps_0 0 rfl ?_
  refine z_lload_n X dX11_steps_1 1 rfl ?_
  obtain ⟨g1, hf⟩ := gif hf
  obtain ⟨r2, hr2, hf⟩ := obE hf
  refine y_V1 X cv_RX11_265 dX11_steps_2 g1 (c_X_findWay d (Nat.le_trans (by decide) hd) l0 l1 h r2 hr2) (as := [(1, l1)]) rfl rfl (Nat.le_of_ble_eq_true rfl) z00 ?_
  refine z_istore_n X dX11_steps_5 (by decide) (ls' := [(3, (0, r2.1)), (0, (2, l0)), (1, (1, l1))]) rfl ?_
  refine z_iload_n X dX11_steps_6 0 rfl ?_
  refine z_if_ge X dX11_steps_7 rfl (fun hc7 => ?_) (fun hc7 => ?_)
  · have hf := ift hc7 hf
    refine z_aload_n X dX11_steps_14 1 rfl ?_
    refine y_get X fl_RX11_81 dX11_steps_15 g1 ?_
    obtain ⟨g2, hf⟩ := gif hf
    refine y_get X fl_RX11_268 dX11_steps_18 g2 ?_
    cases hf
    exact z_iret X hK dX11_steps_21
  · have hf := iff' hc7 hf
    refine z_iload_n X dX11_steps_10 0 rfl ?_
    refine z_goto X dX11_steps_11 rfl ?_
    cases hf
    exact z_iret X hK dX11_steps_21
set_option maxHeartbeats 4000000 in
set_option maxRecDepth 100000 in
theorem c_X_step {l : Launch} {g : GP} (d : Nat) (hd : 7 ≤ d) (l0 l1 l3 l4 : Int) (h : Hp) (y : Int × Hp) (hf : X_step l0 l1 l3 l4 h = some y) : zM l yX11_step cX11_step 6 (some .int) d 0 0 g 157 h [(2, l0), (1, l1), (0, l3), (0, l4)] 157 y.2 (some (0, y.1)) := by
  obtain ⟨d, rfl⟩ : ∃ k, d = k + 1 := ⟨d - 1, by omega⟩
  replace hd : 6 ≤ d := Nat.le_of_succ_le_succ hd
  refine z_start (by decide) (Nat.le_of_ble_eq_true rfl) (fun x X hK _ _ _ hl => ?_)
  show ZV g x 6 h 0 [(0, (2, l0)), (1, (1, l1)), (3, (0, l3)), (4, (0, l4))] []
  unfold X_step at hf
  refine z_aload_n X dX11_step_0 0 rfl ?_
  refine z_lload_n X dX11_step_1 1 rfl ?_
  obtain ⟨g1, hf⟩ := gif hf
  obtain ⟨r2, hr2, hf⟩ := obE hf
  refine y_V1 X cv_RX11_265 dX11_step_2 g1 (c_X_findWay d (Nat.le_trans (by decide) hd) l0 l1 h r2 hr2) (as := [(1, l1)]) rfl rfl (Nat.le_of_ble_eq_true rfl) z00 ?_
  refine z_istore X dX11_step_5 (by decide) (ls' := [(5, (0, r2.1)), (0, (2, l0)), (1, (1, l1)), (3, (0, l3)), (4, (0, l4))]) rfl ?_
  refine z_iload X dX11_step_7 0 rfl ?_
  refine z_if_ge X dX11_step_9 rfl (fun hc9 => ?_) (fun hc9 => ?_)
  · have hf := ift hc9 hf
    refine z_iload_n X dX11_step_15 3 rfl ?_
    refine z_if_lt X dX11_step_16 rfl (fun hc16 => ?_) (fun hc16 => ?_)
    · have hf := ift hc16 hf
      refine z_bipush X dX11_step_30 kb_m2 kc_m2 ?_
      cases hf
      exact z_iret X hK dX11_step_32
    · have hf := iff' hc16 hf
      refine z_iload_n X dX11_step_19 3 rfl ?_
      refine z_aload_n X dX11_step_20 1 rfl ?_
      refine y_get X fl_RX11_81 dX11_step_21 g1 ?_
      obtain ⟨g2, hf⟩ := gif hf
      refine y_get X fl_RX11_268 dX11_step_24 g2 ?_
      refine z_icmp_lt X dX11_step_27 rfl (fun hc27 => ?_) (fun hc27 => ?_)
      · have hf := ift hc27 hf
        refine z_iload X dX11_step_33 4 rfl ?_
        by_cases hc35_0 : l4 = 0
        · have hf := ift hc35_0 hf
          refine z_tsIn X dX11_step_35 (by omega) (by omega) (by rw [hc35_0]; rfl) rfl ?_
          refine z_aload_n X dX11_step_64 1 rfl ?_
          refine y_get X fl_RX11_81 dX11_step_65 g1 ?_
          refine y_get X fl_RX11_271 dX11_step_68 g2 ?_
          refine z_iload_n X dX11_step_71 3 rfl ?_
          obtain ⟨g3, hf⟩ := gif hf
          refine y_iald X dX11_step_72 g3 ?_
          cases hf
          exact z_iret X hK dX11_step_73
        · have hf := iff' hc35_0 hf
          by_cases hc35_1 : l4 = 1
          · have hf := ift hc35_1 hf
            refine z_tsIn X dX11_step_35 (by omega) (by omega) (by rw [hc35_1]; rfl) rfl ?_
            refine z_aload_n X dX11_step_74 1 rfl ?_
            refine y_get X fl_RX11_81 dX11_step_75 g1 ?_
            refine y_get X fl_RX11_274 dX11_step_78 g2 ?_
            refine z_iload_n X dX11_step_81 3 rfl ?_
            obtain ⟨g4, hf⟩ := gif hf
            refine y_iald X dX11_step_82 g4 ?_
            cases hf
            exact z_iret X hK dX11_step_83
          · have hf := iff' hc35_1 hf
            by_cases hc35_2 : l4 = 2
            · have hf := ift hc35_2 hf
              refine z_tsIn X dX11_step_35 (by omega) (by omega) (by rw [hc35_2]; rfl) rfl ?_
              refine z_aload_n X dX11_step_84 1 rfl ?_
              refine y_get X fl_RX11_81 dX11_step_85 g1 ?_
              refine y_get X fl_RX11_277 dX11_step_88 g2 ?_
              refine z_iload_n X dX11_step_91 3 rfl ?_
              obtain ⟨g5, hf⟩ := gif hf
              refine y_iald X dX11_step_92 g5 ?_
              cases hf
              exact z_iret X hK dX11_step_93
            · have hf := iff' hc35_2 hf
              by_cases hc35_3 : l4 = 3
              · have hf := ift hc35_3 hf
                refine z_tsIn X dX11_step_35 (by omega) (by omega) (by rw [hc35_3]; rfl) rfl ?_
                refine z_aload_n X dX11_step_94 1 rfl ?_
                refine y_get X fl_RX11_81 dX11_step_95 g1 ?_
                refine y_get X fl_RX11_279 dX11_step_98 g2 ?_
                refine z_iload_n X dX11_step_101 3 rfl ?_
                obtain ⟨g6, hf⟩ := gif hf
                refine y_iald X dX11_step_102 g6 ?_
                cases hf
                exact z_iret X hK dX11_step_103
              · have hf := iff' hc35_3 hf
                refine z_tsOut X dX11_step_35 (by omega) rfl ?_
                refine z_bipush X dX11_step_104 kb_m2 kc_m2 ?_
                cases hf
                exact z_iret X hK dX11_step_106
      · have hf := iff' hc27 hf
        refine z_bipush X dX11_step_30 kb_m2 kc_m2 ?_
        cases hf
        exact z_iret X hK dX11_step_32
  · have hf := iff' hc9 hf
    refine z_iload X dX11_step_12 0 rfl ?_
    cases hf
    exact z_iret X hK dX11_step_14
set_option maxHeartbeats 4000000 in
set_option maxRecDepth 100000 in
theorem c_X_whose {l : Launch} {g : GP} (d : Nat) (hd : 7 ≤ d) (l0 l1 l3 l4 : Int) (h : Hp) (y : Int × Hp) (hf : X_whose l0 l1 l3 l4 h = some y) : zM l yX11_whose cX11_whose 6 (some .int) d 0 0 g 157 h [(2, l0), (1, l1), (0, l3), (0, l4)] 157 y.2 (some (0, y.1)) := by
  obtain ⟨d, rfl⟩ : ∃ k, d = k + 1 := ⟨d - 1, by omega⟩
  replace hd : 6 ≤ d := Nat.le_of_succ_le_succ hd
  refine z_start (by decide) (Nat.le_of_ble_eq_true rfl) (fun x X hK _ _ _ hl => ?_)
  show ZV g x 6 h 0 [(0, (2, l0)), (1, (1, l1)), (3, (0, l3)), (4, (0, l4))] []
  unfold X_whose at hf
  refine z_aload_n X dX11_whose_0 0 rfl ?_
  refine z_lload_n X dX11_whose_1 1 rfl ?_
  obtain ⟨g1, hf⟩ := gif hf
  obtain ⟨r2, hr2, hf⟩ := obE hf
  refine y_V1 X cv_RX11_265 dX11_whose_2 g1 (c_X_findWay d (Nat.le_trans (by decide) hd) l0 l1 h r2 hr2) (as := [(1, l1)]) rfl rfl (Nat.le_of_ble_eq_true rfl) z00 ?_
  refine z_istore X dX11_whose_5 (by decide) (ls' := [(5, (0, r2.1)), (0, (2, l0)), (1, (1, l1)), (3, (0, l3)), (4, (0, l4))]) rfl ?_
  refine z_iload X dX11_whose_7 0 rfl ?_
  refine z_if_ge X dX11_whose_9 rfl (fun hc9 => ?_) (fun hc9 => ?_)
  · have hf := ift hc9 hf
    refine z_iload_n X dX11_whose_15 3 rfl ?_
    refine z_if_lt X dX11_whose_16 rfl (fun hc16 => ?_) (fun hc16 => ?_)
    · have hf := ift hc16 hf
      refine z_bipush X dX11_whose_44 kb_m2 kc_m2 ?_
      cases hf
      exact z_iret X hK dX11_whose_46
    · have hf := iff' hc16 hf
      refine z_iload_n X dX11_whose_19 3 rfl ?_
      refine z_aload_n X dX11_whose_20 1 rfl ?_
      refine y_get X fl_RX11_81 dX11_whose_21 g1 ?_
      obtain ⟨g2, hf⟩ := gif hf
      refine y_get X fl_RX11_282 dX11_whose_24 g2 ?_
      obtain ⟨g3, hf⟩ := gif hf
      refine y_get X fl_RX11_118 dX11_whose_27 g3 ?_
      refine z_icmp_ge X dX11_whose_30 rfl (fun hc30 => ?_) (fun hc30 => ?_)
      · have hf := ift hc30 hf
        refine z_bipush X dX11_whose_44 kb_m2 kc_m2 ?_
        cases hf
        exact z_iret X hK dX11_whose_46
      · have hf := iff' hc30 hf
        refine z_iload X dX11_whose_33 4 rfl ?_
        refine z_if_lt X dX11_whose_35 rfl (fun hc35 => ?_) (fun hc35 => ?_)
        · have hf := ift hc35 hf
          refine z_bipush X dX11_whose_44 kb_m2 kc_m2 ?_
          cases hf
          exact z_iret X hK dX11_whose_46
        · have hf := iff' hc35 hf
          refine z_iload X dX11_whose_38 4 rfl ?_
          refine z_iconst X dX11_whose_40 kc_1 ?_
          refine z_icmp_le X dX11_whose_41 rfl (fun hc41 => ?_) (fun hc41 => ?_)
          · have hf := ift hc41 hf
            refine z_iload X dX11_whose_47 4 rfl ?_
            refine z_if_ne X dX11_whose_49 rfl (fun hc49 => ?_) (fun hc49 => ?_)
            · have hf := iff' hc49 hf
              refine z_aload_n X dX11_whose_64 1 rfl ?_
              refine y_get X fl_RX11_81 dX11_whose_65 g1 ?_
              refine y_get X fl_RX11_286 dX11_whose_68 g2 ?_
              refine z_iload_n X dX11_whose_71 3 rfl ?_
              obtain ⟨g4, hf⟩ := gif hf
              refine y_iald X dX11_whose_72 g4 ?_
              cases hf
              exact z_iret X hK dX11_whose_73
            · have hf := ift hc49 hf
              refine z_aload_n X dX11_whose_52 1 rfl ?_
              refine y_get X fl_RX11_81 dX11_whose_53 g1 ?_
              refine y_get X fl_RX11_283 dX11_whose_56 g2 ?_
              refine z_iload_n X dX11_whose_59 3 rfl ?_
              obtain ⟨g5, hf⟩ := gif hf
              refine y_iald X dX11_whose_60 g5 ?_
              refine z_goto X dX11_whose_61 rfl ?_
              cases hf
              exact z_iret X hK dX11_whose_73
          · have hf := iff' hc41 hf
            refine z_bipush X dX11_whose_44 kb_m2 kc_m2 ?_
            cases hf
            exact z_iret X hK dX11_whose_46
  · have hf := iff' hc9 hf
    refine z_iload X dX11_whose_12 0 rfl ?_
    cases hf
    exact z_iret X hK dX11_whose_14
set_option maxHeartbeats 4000000 in
set_option maxRecDepth 100000 in
theorem c_X_arcs {l : Launch} {g : GP} (d : Nat) (hd : 7 ≤ d) (l0 l1 l3 : Int) (h : Hp) (y : Int × Hp) (hf : X_arcs l0 l1 l3 h = some y) : zM l yX11_arcs cX11_arcs 5 (some .int) d 0 0 g 157 h [(2, l0), (1, l1), (0, l3)] 157 y.2 (some (0, y.1)) := by
  obtain ⟨d, rfl⟩ : ∃ k, d = k + 1 := ⟨d - 1, by omega⟩
  replace hd : 6 ≤ d := Nat.le_of_succ_le_succ hd
  refine z_start (by decide) (Nat.le_of_ble_eq_true rfl) (fun x X hK _ _ _ hl => ?_)
  show ZV g x 5 h 0 [(0, (2, l0)), (1, (1, l1)), (3, (0, l3))] []
  unfold X_arcs at hf
  refine z_aload_n X dX11_arcs_0 0 rfl ?_
  refine z_lload_n X dX11_arcs_1 1 rfl ?_
  obtain ⟨g1, hf⟩ := gif hf
  obtain ⟨r2, hr2, hf⟩ := obE hf
  refine y_V1 X cv_RX11_265 dX11_arcs_2 g1 (c_X_findWay d (Nat.le_trans (by decide) hd) l0 l1 h r2 hr2) (as := [(1, l1)]) rfl rfl (Nat.le_of_ble_eq_true rfl) z00 ?_
  refine z_istore X dX11_arcs_5 (by decide) (ls' := [(4, (0, r2.1)), (0, (2, l0)), (1, (1, l1)), (3, (0, l3))]) rfl ?_
  refine z_iload X dX11_arcs_7 0 rfl ?_
  refine z_if_ge X dX11_arcs_9 rfl (fun hc9 => ?_) (fun hc9 => ?_)
  · have hf := ift hc9 hf
    refine z_iload_n X dX11_arcs_15 3 rfl ?_
    by_cases hc16_0 : l3 = 0
    · have hf := ift hc16_0 hf
      refine z_tsIn X dX11_arcs_16 (by omega) (by omega) (by rw [hc16_0]; rfl) rfl ?_
      refine z_aload_n X dX11_arcs_44 1 rfl ?_
      refine y_get X fl_RX11_81 dX11_arcs_45 g1 ?_
      obtain ⟨g2, hf⟩ := gif hf
      obtain ⟨r48, hr48, hf⟩ := obE hf
      refine y_V1 X cv_RX11_289 dX11_arcs_48 g2 (c_Wy_arcCount d (Nat.le_trans (by decide) hd) (r2.2 l0 11) r2.2 r48 hr48) (as := []) rfl rfl (Nat.le_of_ble_eq_true rfl) z00 ?_
      cases hf
      exact z_iret X hK dX11_arcs_51
    · have hf := iff' hc16_0 hf
      by_cases hc16_1 : l3 = 1
      · have hf := ift hc16_1 hf
        refine z_tsIn X dX11_arcs_16 (by omega) (by omega) (by rw [hc16_1]; rfl) rfl ?_
        refine z_aload_n X dX11_arcs_52 1 rfl ?_
        refine y_get X fl_RX11_81 dX11_arcs_53 g1 ?_
        obtain ⟨g3, hf⟩ := gif hf
        obtain ⟨r56, hr56, hf⟩ := obE hf
        refine y_V1 X cv_RX11_292 dX11_arcs_56 g3 (c_Wy_crossings d (Nat.le_trans (by decide) hd) (r2.2 l0 11) r2.2 r56 hr56) (as := []) rfl rfl (Nat.le_of_ble_eq_true rfl) z00 ?_
        cases hf
        exact z_iret X hK dX11_arcs_59
      · have hf := iff' hc16_1 hf
        by_cases hc16_2 : l3 = 2
        · have hf := ift hc16_2 hf
          refine z_tsIn X dX11_arcs_16 (by omega) (by omega) (by rw [hc16_2]; rfl) rfl ?_
          refine z_aload_n X dX11_arcs_60 1 rfl ?_
          refine y_get X fl_RX11_81 dX11_arcs_61 g1 ?_
          obtain ⟨g4, hf⟩ := gif hf
          obtain ⟨r64, hr64, hf⟩ := obE hf
          refine y_V1 X cv_RX11_295 dX11_arcs_64 g4 (c_Wy_longestArc d (Nat.le_trans (by decide) hd) (r2.2 l0 11) r2.2 r64 hr64) (as := []) rfl rfl (Nat.le_of_ble_eq_true rfl) z00 ?_
          cases hf
          exact z_iret X hK dX11_arcs_67
        · have hf := iff' hc16_2 hf
          refine z_tsOut X dX11_arcs_16 (by omega) rfl ?_
          refine z_bipush X dX11_arcs_68 kb_m2 kc_m2 ?_
          cases hf
          exact z_iret X hK dX11_arcs_70
  · have hf := iff' hc9 hf
    refine z_iload X dX11_arcs_12 0 rfl ?_
    cases hf
    exact z_iret X hK dX11_arcs_14
set_option maxHeartbeats 4000000 in
set_option maxRecDepth 100000 in
theorem c_X_grown {l : Launch} {g : GP} (d : Nat) (hd : 7 ≤ d) (l0 l1 l3 : Int) (h : Hp) (y : Int × Hp) (hf : X_grown l0 l1 l3 h = some y) : zM l yX11_grown cX11_grown 5 (some .int) d 0 0 g 157 h [(2, l0), (1, l1), (0, l3)] 157 y.2 (some (0, y.1)) := by
  obtain ⟨d, rfl⟩ : ∃ k, d = k + 1 := ⟨d - 1, by omega⟩
  replace hd : 6 ≤ d := Nat.le_of_succ_le_succ hd
  refine z_start (by decide) (Nat.le_of_ble_eq_true rfl) (fun x X hK _ _ _ hl => ?_)
  show ZV g x 5 h 0 [(0, (2, l0)), (1, (1, l1)), (3, (0, l3))] []
  unfold X_grown at hf
  refine z_aload_n X dX11_grown_0 0 rfl ?_
  refine z_lload_n X dX11_grown_1 1 rfl ?_
  obtain ⟨g1, hf⟩ := gif hf
  obtain ⟨r2, hr2, hf⟩ := obE hf
  refine y_V1 X cv_RX11_265 dX11_grown_2 g1 (c_X_findWay d (Nat.le_trans (by decide) hd) l0 l1 h r2 hr2) (as := [(1, l1)]) rfl rfl (Nat.le_of_ble_eq_true rfl) z00 ?_
  refine z_istore X dX11_grown_5 (by decide) (ls' := [(4, (0, r2.1)), (0, (2, l0)), (1, (1, l1)), (3, (0, l3))]) rfl ?_
  refine z_iload X dX11_grown_7 0 rfl ?_
  refine z_if_ge X dX11_grown_9 rfl (fun hc9 => ?_) (fun hc9 => ?_)
  · have hf := ift hc9 hf
    refine z_iload_n X dX11_grown_15 3 rfl ?_
    by_cases hc16_0 : l3 = 0
    · have hf := ift hc16_0 hf
      refine z_lsw X dX11_grown_16 (off := 28) (by decide) (by simp [Op.lookupswitch.offset, hc16_0]) rfl ?_
      refine z_aload_n X dX11_grown_44 1 rfl ?_
      refine y_get X fl_RX11_81 dX11_grown_45 g1 ?_
      obtain ⟨g2, hf⟩ := gif hf
      refine y_get X fl_RX11_298 dX11_grown_48 g2 ?_
      cases hf
      exact z_iret X hK dX11_grown_51
    · have hf := iff' hc16_0 hf
      by_cases hc16_1 : l3 = 1
      · have hf := ift hc16_1 hf
        refine z_lsw X dX11_grown_16 (off := 36) (by decide) (by simp [Op.lookupswitch.offset, hc16_1]) rfl ?_
        refine z_aload_n X dX11_grown_52 1 rfl ?_
        refine y_get X fl_RX11_81 dX11_grown_53 g1 ?_
        obtain ⟨g3, hf⟩ := gif hf
        refine y_get X fl_RX11_301 dX11_grown_56 g3 ?_
        cases hf
        exact z_iret X hK dX11_grown_59
      · have hf := iff' hc16_1 hf
        refine z_lsw X dX11_grown_16 (off := 44) (by decide) (by simp [Op.lookupswitch.offset, show ¬ (0 : Int) = l3 from fun e => hc16_0 e.symm, show ¬ (1 : Int) = l3 from fun e => hc16_1 e.symm]) rfl ?_
        refine z_bipush X dX11_grown_60 kb_m2 kc_m2 ?_
        cases hf
        exact z_iret X hK dX11_grown_62
  · have hf := iff' hc9 hf
    refine z_iload X dX11_grown_12 0 rfl ?_
    cases hf
    exact z_iret X hK dX11_grown_14
set_option maxHeartbeats 4000000 in
set_option maxRecDepth 100000 in
theorem c_X_tell {l : Launch} {g : GP} (d : Nat) (hd : 7 ≤ d) (l0 l1 : Int) (h : Hp) (y : Int × Hp) (hf : X_tell l0 l1 h = some y) : zM l yX11_tell cX11_tell 4 (some .int) d 0 0 g 157 h [(2, l0), (1, l1)] 157 y.2 (some (0, y.1)) := by
  obtain ⟨d, rfl⟩ : ∃ k, d = k + 1 := ⟨d - 1, by omega⟩
  replace hd : 6 ≤ d := Nat.le_of_succ_le_succ hd
  refine z_start (by decide) (Nat.le_of_ble_eq_true rfl) (fun x X hK _ _ _ hl => ?_)
  show ZV g x 4 h 0 [(0, (2, l0)), (1, (1, l1))] []
  unfold X_tell at hf
  refine z_aload_n X dX11_tell_0 0 rfl ?_
  refine z_lload_n X dX11_tell_1 1 rfl ?_
  obtain ⟨g1, hf⟩ := gif hf
  obtain ⟨r2, hr2, hf⟩ := obE hf
  refine y_V1 X cv_RX11_265 dX11_tell_2 g1 (c_X_findWay d (Nat.le_trans (by decide) hd) l0 l1 h r2 hr2) (as := [(1, l1)]) rfl rfl (Nat.le_of_ble_eq_true rfl) z00 ?_
  refine z_istore_n X dX11_tell_5 (by decide) (ls' := [(3, (0, r2.1)), (0, (2, l0)), (1, (1, l1))]) rfl ?_
  refine z_iload_n X dX11_tell_6 0 rfl ?_
  refine z_if_ge X dX11_tell_7 rfl (fun hc7 => ?_) (fun hc7 => ?_)
  · have hf := ift hc7 hf
    refine z_aload_n X dX11_tell_12 1 rfl ?_
    refine y_get X fl_RX11_18 dX11_tell_13 g1 ?_
    refine z_aload_n X dX11_tell_16 1 rfl ?_
    refine y_get X fl_RX11_81 dX11_tell_17 g1 ?_
    obtain ⟨g2, hf⟩ := gif hf
    refine y_get X fl_RX11_304 dX11_tell_20 g2 ?_
    refine z_iconst X dX11_tell_23 kc_0 ?_
    obtain ⟨g3, hf⟩ := gif hf
    obtain ⟨r24, hr24, hf⟩ := obE hf
    refine y_V0 X cv_RX11_307 dX11_tell_24 g3 (c_By_takeFrom d (Nat.le_trans (by decide) hd) (r2.2 l0 1) (r2.2 (r2.2 l0 11) 9) 0 r2.2 r24 hr24) (as := [(2, r2.2 (r2.2 l0 11) 9), (0, 0)]) rfl rfl (Nat.le_of_ble_eq_true rfl) z00 ?_
    refine z_aload_n X dX11_tell_27 1 rfl ?_
    refine y_get X fl_RX11_18 dX11_tell_28 g1 ?_
    obtain ⟨g4, hf⟩ := gif hf
    refine y_get X fl_RX11_118 dX11_tell_31 g4 ?_
    cases hf
    exact z_iret X hK dX11_tell_34
  · have hf := iff' hc7 hf
    refine z_iload_n X dX11_tell_10 0 rfl ?_
    cases hf
    exact z_iret X hK dX11_tell_11
set_option maxHeartbeats 4000000 in
set_option maxRecDepth 100000 in
theorem c_X_tellWay {l : Launch} {g : GP} (d : Nat) (hd : 7 ≤ d) (l0 l1 : Int) (h : Hp) (y : Int × Hp) (hf : X_tellWay l0 l1 h = some y) : zM l yX11_tellWay cX11_tellWay 4 (some .int) d 0 0 g 157 h [(2, l0), (1, l1)] 157 y.2 (some (0, y.1)) := by
  obtain ⟨d, rfl⟩ : ∃ k, d = k + 1 := ⟨d - 1, by omega⟩
  replace hd : 6 ≤ d := Nat.le_of_succ_le_succ hd
  refine z_start (by decide) (Nat.le_of_ble_eq_true rfl) (fun x X hK _ _ _ hl => ?_)
  show ZV g x 4 h 0 [(0, (2, l0)), (1, (1, l1))] []
  unfold X_tellWay at hf
  refine z_aload_n X dX11_tellWay_0 0 rfl ?_
  refine z_lload_n X dX11_tellWay_1 1 rfl ?_
  obtain ⟨g1, hf⟩ := gif hf
  obtain ⟨r2, hr2, hf⟩ := obE hf
  refine y_V1 X cv_RX11_265 dX11_tellWay_2 g1 (c_X_findWay d (Nat.le_trans (by decide) hd) l0 l1 h r2 hr2) (as := [(1, l1)]) rfl rfl (Nat.le_of_ble_eq_true rfl) z00 ?_
  refine z_istore_n X dX11_tellWay_5 (by decide) (ls' := [(3, (0, r2.1)), (0, (2, l0)), (1, (1, l1))]) rfl ?_
  refine z_iload_n X dX11_tellWay_6 0 rfl ?_
  refine z_if_ge X dX11_tellWay_7 rfl (fun hc7 => ?_) (fun hc7 => ?_)
  · have hf := ift hc7 hf
    refine z_aload_n X dX11_tellWay_12 1 rfl ?_
    refine y_get X fl_RX11_18 dX11_tellWay_13 g1 ?_
    refine z_iconst X dX11_tellWay_16 kc_0 ?_
    obtain ⟨g2, hf⟩ := gif hf
    refine y_put X fl_RX11_118 dX11_tellWay_17 g2 rfl (by decide) ?_
    let h_1 : Hp := hput r2.2 (r2.2 l0 1) 1 0
    refine z_aload_n X dX11_tellWay_20 1 rfl ?_
    refine y_get X fl_RX11_81 dX11_tellWay_21 g1 ?_
    refine z_aload_n X dX11_tellWay_24 1 rfl ?_
    refine y_get X fl_RX11_18 dX11_tellWay_25 g1 ?_
    obtain ⟨g3, hf⟩ := gif hf
    obtain ⟨r28, hr28, hf⟩ := obE hf
    refine y_V0 X cv_RX11_311 dX11_tellWay_28 g3 (c_Wy_tellSteps d (Nat.le_trans (by decide) hd) (h_1 l0 11) (h_1 l0 1) h_1 r28 hr28) (as := [(2, h_1 l0 1)]) rfl rfl (Nat.le_of_ble_eq_true rfl) z00 ?_
    refine z_aload_n X dX11_tellWay_31 1 rfl ?_
    refine y_get X fl_RX11_18 dX11_tellWay_32 g1 ?_
    obtain ⟨g4, hf⟩ := gif hf
    refine y_get X fl_RX11_118 dX11_tellWay_35 g4 ?_
    cases hf
    exact z_iret X hK dX11_tellWay_38
  · have hf := iff' hc7 hf
    refine z_iload_n X dX11_tellWay_10 0 rfl ?_
    cases hf
    exact z_iret X hK dX11_tellWay_11
set_option maxHeartbeats 4000000 in
set_option maxRecDepth 100000 in
theorem c_X_octet {l : Launch} {g : GP} (d : Nat) (hd : 1 ≤ d) (l0 l1 : Int) (h : Hp) (y : Int) (hf : X_octet l0 l1 h = some y) : zM l yX11_octet cX11_octet 2 (some .int) d 0 0 g 157 h [(2, l0), (0, l1)] 157 h (some (0, y)) := by
  obtain ⟨d, rfl⟩ : ∃ k, d = k + 1 := ⟨d - 1, by omega⟩
  replace hd : 0 ≤ d := Nat.le_of_succ_le_succ hd
  refine z_start (by decide) (Nat.le_of_ble_eq_true rfl) (fun x X hK _ _ _ hl => ?_)
  show ZV g x 2 h 0 [(0, (2, l0)), (1, (0, l1))] []
  unfold X_octet at hf
  refine z_aload_n X dX11_octet_0 0 rfl ?_
  obtain ⟨g1, hf⟩ := gif hf
  refine y_get X fl_RX11_18 dX11_octet_1 g1 ?_
  refine z_iload_n X dX11_octet_4 1 rfl ?_
  obtain ⟨g2, hf⟩ := gif hf
  obtain ⟨r5, hr5, hf⟩ := obE hf
  refine y_V1 X cv_RX11_134 dX11_octet_5 g2 (c_By_at d (Nat.zero_le _) (h l0 1) l1 h r5 hr5) (as := [(0, l1)]) rfl rfl (Nat.le_of_ble_eq_true rfl) z00 ?_
  cases hf
  exact z_iret X hK dX11_octet_8
set_option maxHeartbeats 4000000 in
set_option maxRecDepth 100000 in
theorem c_X_test {l : Launch} {g : GP} (d : Nat) (hd : 5 ≤ d) (l0 : Int) (h : Hp) (y : Int × Hp) (hf : X_test l0 h = some y) : zM l yX11_test cX11_test 3 (some .int) d 0 0 g 157 h [(2, l0)] 157 y.2 (some (0, y.1)) := by
  obtain ⟨d, rfl⟩ : ∃ k, d = k + 1 := ⟨d - 1, by omega⟩
  replace hd : 4 ≤ d := Nat.le_of_succ_le_succ hd
  refine z_start (by decide) (Nat.le_of_ble_eq_true rfl) (fun x X hK _ _ _ hl => ?_)
  show ZV g x 3 h 0 [(0, (2, l0))] []
  unfold X_test at hf
  refine z_aload_n X dX11_test_0 0 rfl ?_
  obtain ⟨g1, hf⟩ := gif hf
  refine y_get X fl_RX11_34 dX11_test_1 g1 ?_
  refine z_aload_n X dX11_test_4 0 rfl ?_
  refine y_get X fl_RX11_14 dX11_test_5 g1 ?_
  obtain ⟨g2, hf⟩ := gif hf
  obtain ⟨r8, hr8, hf⟩ := obE hf
  refine y_V1 X cv_RX11_314 dX11_test_8 g2 (c_SR_readText d (Nat.le_trans (by decide) hd) (h l0 4) (h l0 0) h r8 hr8) (as := [(2, h l0 0)]) rfl rfl (Nat.le_of_ble_eq_true rfl) z00 ?_
  refine z_istore_n X dX11_test_11 (by decide) (ls' := [(1, (0, r8.1)), (0, (2, l0))]) rfl ?_
  refine z_aload_n X dX11_test_12 1 rfl ?_
  refine y_get X fl_RX11_14 dX11_test_13 g1 ?_
  refine z_iconst X dX11_test_16 kc_0 ?_
  obtain ⟨g3, hf⟩ := gif hf
  refine y_put X fl_RX11_118 dX11_test_17 g3 rfl (by decide) ?_
  let h_1 : Hp := hput r8.2 (r8.2 l0 0) 1 0
  refine z_iload_n X dX11_test_20 0 rfl ?_
  refine z_if_ne X dX11_test_21 rfl (fun hc21 => ?_) (fun hc21 => ?_)
  · have hf := iff' hc21 hf
    refine z_aload_n X dX11_test_27 1 rfl ?_
    refine y_get X fl_RX11_34 dX11_test_28 g1 ?_
    refine z_aload_n X dX11_test_31 1 rfl ?_
    refine y_get X fl_RX11_100 dX11_test_32 g1 ?_
    refine z_aload_n X dX11_test_35 1 rfl ?_
    refine y_get X fl_RX11_85 dX11_test_36 g1 ?_
    obtain ⟨g4, hf⟩ := gif hf
    obtain ⟨r39, hr39, hf⟩ := obE hf
    refine y_V1 X cv_RX11_317 dX11_test_39 g4 (c_SR_putTogether d (Nat.le_trans (by decide) hd) (h_1 l0 4) (h_1 l0 15) (h_1 l0 12) h_1 r39 hr39) (as := [(2, h_1 l0 15), (2, h_1 l0 12)]) rfl rfl (Nat.le_of_ble_eq_true rfl) z00 ?_
    refine z_istore_n X dX11_test_42 (by decide) (ls' := [(2, (0, r39.1)), (1, (0, r8.1)), (0, (2, l0))]) rfl ?_
    refine z_iload_n X dX11_test_43 0 rfl ?_
    refine z_if_ge X dX11_test_44 rfl (fun hc44 => ?_) (fun hc44 => ?_)
    · have hf := ift hc44 hf
      refine z_aload_n X dX11_test_49 2 rfl ?_
      refine y_get X fl_RX11_85 dX11_test_50 g1 ?_
      refine z_aload_n X dX11_test_53 2 rfl ?_
      refine y_get X fl_RX11_100 dX11_test_54 g1 ?_
      obtain ⟨g5, hf⟩ := gif hf
      obtain ⟨r57, hr57, hf⟩ := obE hf
      refine y_V0 X cv_RX11_321 dX11_test_57 g5 (c_Wy_unfold d (Nat.le_trans (by decide) hd) (r39.2 l0 12) (r39.2 l0 15) r39.2 r57 hr57) (as := [(2, r39.2 l0 15)]) rfl rfl (Nat.le_of_ble_eq_true rfl) z00 ?_
      refine z_aload_n X dX11_test_60 2 rfl ?_
      refine y_get X fl_RX11_18 dX11_test_61 g1 ?_
      refine z_aload_n X dX11_test_64 2 rfl ?_
      refine y_get X fl_RX11_85 dX11_test_65 g1 ?_
      obtain ⟨g6, hf⟩ := gif hf
      refine y_get X fl_RX11_282 dX11_test_68 g6 ?_
      refine z_bipush X dX11_test_71 kb_97 kc_97 ?_
      obtain ⟨g7, hf⟩ := gif hf
      obtain ⟨r73, hr73, hf⟩ := obE hf
      refine y_V0 X cv_RX11_307 dX11_test_73 g7 (c_By_takeFrom d (Nat.le_trans (by decide) hd) (r57 l0 1) (r57 (r57 l0 12) 10) 97 r57 r73 hr73) (as := [(2, r57 (r57 l0 12) 10), (0, 97)]) rfl rfl (Nat.le_of_ble_eq_true rfl) z00 ?_
      refine z_aload_n X dX11_test_76 2 rfl ?_
      refine y_get X fl_RX11_85 dX11_test_77 g1 ?_
      obtain ⟨g8, hf⟩ := gif hf
      refine y_get X fl_RX11_282 dX11_test_80 g8 ?_
      refine z_aload_n X dX11_test_83 2 rfl ?_
      refine y_get X fl_RX11_21 dX11_test_84 g1 ?_
      obtain ⟨g9, hf⟩ := gif hf
      obtain ⟨r87, hr87, hf⟩ := obE hf
      refine y_V1 X cv_RX11_325 dX11_test_87 g9 (c_By_isLike d (Nat.le_trans (by decide) hd) (r73 (r73 l0 12) 10) (r73 l0 2) r73 r87 hr87) (as := [(2, r73 l0 2)]) rfl rfl (Nat.le_of_ble_eq_true rfl) z00 ?_
      refine z_if_eq X dX11_test_90 rfl (fun hc90 => ?_) (fun hc90 => ?_)
      · rw [if_pos hc90] at hf
        refine z_iconst X dX11_test_97 kc_0 ?_
        cases hf
        exact z_iret X hK dX11_test_98
      · rw [if_neg hc90] at hf
        refine z_iconst X dX11_test_93 kc_1 ?_
        refine z_goto X dX11_test_94 rfl ?_
        cases hf
        exact z_iret X hK dX11_test_98
    · have hf := iff' hc44 hf
      refine z_iload_n X dX11_test_47 0 rfl ?_
      cases hf
      exact z_iret X hK dX11_test_48
  · have hf := ift hc21 hf
    refine z_bipush X dX11_test_24 kb_m4 kc_m4 ?_
    cases hf
    exact z_iret X hK dX11_test_26
set_option maxHeartbeats 4000000 in
set_option maxRecDepth 100000 in
theorem z_X_listRead_j114 {g : GP} {x : CX} {d : Nat} (X : zX g x RX11 cX11_listRead 6 (d + 1)) (hd : 4 ≤ d) (l0 l1 l3 l5 : Int) (h : Hp) (y : (Int × Hp) ⊕ (Hp)) (hf : X_listRead_j114 l0 l1 l3 l5 h = some y) (E : Hp → Prop) (hx0 : ∀ e : Hp, E (e) → ZV g x 6 e 120 [(0, (2, l0))] []) (hk : z_sum (fun q : Int × Hp => ZV g x 6 q.2 46 [(0, (2, l0)), (1, (0, l1)), (3, (1, l3)), (5, (0, q.1))] []) E y) : ZV g x 6 h 114 [(0, (2, l0)), (1, (0, l1)), (3, (1, l3)), (5, (0, l5))] [] := by
  unfold X_listRead_j114 at hf
  refine z_iinc X dX11_listRead_114 3 rfl (by decide) (ls' := [(5, (0, w32 (l5 + 1))), (0, (2, l0)), (1, (0, l1)), (3, (1, l3))]) rfl ?_
  refine z_goto X dX11_listRead_117 rfl ?_
  cases hf
  exact z_weak [1, 2, 3, 0] rfl hk
set_option maxHeartbeats 4000000 in
set_option maxRecDepth 100000 in
theorem z_X_listRead_L46 {g : GP} {x : CX} {d : Nat} (X : zX g x RX11 cX11_listRead 6 (d + 1)) (hd : 4 ≤ d) (l0 l1 l3 : Int)  (E : Hp → Prop) (hx0 : ∀ e : Hp, E (e) → ZV g x 6 e 120 [(0, (2, l0))] []) (l5 : Int) (h : Hp) (y : (Int × Hp) ⊕ (Hp)) (hf : X_listRead_L46 l0 l1 l3 l5 h = some y) (hk : z_sum (fun q : Int × Hp => ZV g x 6 q.2 46 [(0, (2, l0)), (1, (0, l1)), (3, (1, l3)), (5, (0, q.1))] []) E y) : ZV g x 6 h 46 [(0, (2, l0)), (1, (0, l1)), (3, (1, l3)), (5, (0, l5))] [] := by
  unfold X_listRead_L46 at hf
  refine z_iload X dX11_listRead_46 3 rfl ?_
  refine z_aload_n X dX11_listRead_48 0 rfl ?_
  obtain ⟨g6, hf⟩ := gif hf
  refine y_get X fl_RX11_57 dX11_listRead_49 g6 ?_
  obtain ⟨g7, hf⟩ := gif hf
  refine y_get X fl_RX11_369 dX11_listRead_52 g7 ?_
  refine z_icmp_ge X dX11_listRead_55 rfl (fun hc55 => ?_) (fun hc55 => ?_)
  · have hf := ift hc55 hf
    cases hf
    exact z_weak [0] rfl (hx0 _ hk)
  · have hf := iff' hc55 hf
    refine z_lload_n X dX11_listRead_58 2 rfl ?_
    refine z_iload X dX11_listRead_59 3 rfl ?_
    refine z_lshr X dX11_listRead_61 ?_
    refine z_lconst1 X dX11_listRead_62 ?_
    refine z_land X dX11_listRead_63 ?_
    refine z_lconst1 X dX11_listRead_64 ?_
    refine z_l_ne X dX11_listRead_65 dX11_listRead_66 rfl (fun hc65 => ?_) (fun hc65 => ?_)
    · have hf := iff' hc65 hf
      exact (z_X_listRead_j114 X hd l0 l1 l3 l5 h _ hf E hx0 hk)
    · have hf := ift hc65 hf
      refine z_aload_n X dX11_listRead_69 0 rfl ?_
      refine y_get X fl_RX11_93 dX11_listRead_70 g6 ?_
      refine z_iload_n X dX11_listRead_73 1 rfl ?_
      obtain ⟨g8, hf⟩ := gif hf
      refine y_iald X dX11_listRead_74 g8 ?_
      refine z_sipush X dX11_listRead_75 ks_256 kc_256 ?_
      refine z_icmp_ge X dX11_listRead_78 rfl (fun hc78 => ?_) (fun hc78 => ?_)
      · have hf := ift hc78 hf
        exact (z_X_listRead_j114 X hd l0 l1 l3 l5 h _ hf E hx0 hk)
      · have hf := iff' hc78 hf
        refine z_aload_n X dX11_listRead_81 0 rfl ?_
        refine y_get X fl_RX11_90 dX11_listRead_82 g6 ?_
        refine z_iload_n X dX11_listRead_85 1 rfl ?_
        obtain ⟨g9, hf⟩ := gif hf
        refine y_aald X dX11_listRead_86 g9 ?_
        refine z_aload_n X dX11_listRead_87 0 rfl ?_
        refine y_get X fl_RX11_93 dX11_listRead_88 g6 ?_
        refine z_iload_n X dX11_listRead_91 1 rfl ?_
        refine y_iald X dX11_listRead_92 g8 ?_
        refine z_aload_n X dX11_listRead_93 0 rfl ?_
        refine y_get X fl_RX11_57 dX11_listRead_94 g6 ?_
        refine y_get X fl_RX11_378 dX11_listRead_97 g7 ?_
        refine z_iload X dX11_listRead_100 3 rfl ?_
        obtain ⟨g10, hf⟩ := gif hf
        refine y_iald X dX11_listRead_102 g10 ?_
        obtain ⟨g11, hf⟩ := gif hf
        refine y_iast X dX11_listRead_103 g11 ?_
        let h_1 : Hp := hput h (h (h l0 13) l1) (h (h l0 14) l1) (h (h (h l0 7) 1) l5)
        refine z_aload_n X dX11_listRead_104 0 rfl ?_
        refine y_get X fl_RX11_93 dX11_listRead_105 g6 ?_
        refine z_iload_n X dX11_listRead_108 1 rfl ?_
        refine z_dup2 X ne0 ne2 dX11_listRead_109 ?_
        obtain ⟨g12, hf⟩ := gif hf
        refine y_iald X dX11_listRead_110 g12 ?_
        refine z_iconst X dX11_listRead_111 kc_1 ?_
        refine z_iadd X dX11_listRead_112 ?_
        refine y_iast X dX11_listRead_113 g12 ?_
        let h_2 : Hp := hput h_1 (h_1 l0 14) l1 (w32 ((h_1 (h_1 l0 14) l1) + 1))
        exact (z_X_listRead_j114 X hd l0 l1 l3 l5 h_2 _ hf E hx0 hk)
set_option maxHeartbeats 4000000 in
set_option maxRecDepth 100000 in
theorem c_X_listRead {l : Launch} {g : GP} (d : Nat) (hd : 5 ≤ d) (l0 l1 l2 : Int) (h : Hp) (y : Hp) (hf : X_listRead l0 l1 l2 h = some y) : zM l yX11_listRead cX11_listRead 6 none d 0 0 g 157 h [(2, l0), (0, l1), (0, l2)] 157 y none := by
  obtain ⟨d, rfl⟩ : ∃ k, d = k + 1 := ⟨d - 1, by omega⟩
  replace hd : 4 ≤ d := Nat.le_of_succ_le_succ hd
  refine z_start (by decide) (Nat.le_of_ble_eq_true rfl) (fun x X hK _ _ _ hl => ?_)
  show ZV g x 6 h 0 [(0, (2, l0)), (1, (0, l1)), (2, (0, l2))] []
  unfold X_listRead at hf
  refine z_aload_n X dX11_listRead_0 0 rfl ?_
  obtain ⟨g1, hf⟩ := gif hf
  refine y_get X fl_RX11_57 dX11_listRead_1 g1 ?_
  obtain ⟨g2, hf⟩ := gif hf
  refine y_get X fl_RX11_369 dX11_listRead_4 g2 ?_
  refine z_if_ne X dX11_listRead_7 rfl (fun hc7 => ?_) (fun hc7 => ?_)
  · have hf := iff' hc7 hf
    refine z_aload_n X dX11_listRead_11 0 rfl ?_
    refine y_get X fl_RX11_68 dX11_listRead_12 g1 ?_
    refine z_aload_n X dX11_listRead_15 0 rfl ?_
    refine y_get X fl_RX11_100 dX11_listRead_16 g1 ?_
    refine z_aload_n X dX11_listRead_19 0 rfl ?_
    refine y_get X fl_RX11_100 dX11_listRead_20 g1 ?_
    obtain ⟨g3, hf⟩ := gif hf
    refine y_get X fl_RX11_158 dX11_listRead_23 g3 ?_
    refine z_iload_n X dX11_listRead_26 2 rfl ?_
    refine z_aload_n X dX11_listRead_27 0 rfl ?_
    refine y_get X fl_RX11_57 dX11_listRead_28 g1 ?_
    obtain ⟨g4, hf⟩ := gif hf
    obtain ⟨r31, hr31, hf⟩ := obE hf
    refine y_V0 X cv_RX11_247 dX11_listRead_31 g4 (c_Ch_fill d (Nat.le_trans (by decide) hd) (h l0 9) (h l0 15) (h (h l0 15) 4) l2 (h l0 7) h r31 hr31) (as := [(2, h l0 15), (0, h (h l0 15) 4), (0, l2), (2, h l0 7)]) rfl rfl (Nat.le_of_ble_eq_true rfl) z00 ?_
    refine z_aload_n X dX11_listRead_34 0 rfl ?_
    refine y_get X fl_RX11_68 dX11_listRead_35 g1 ?_
    refine z_iload_n X dX11_listRead_38 2 rfl ?_
    obtain ⟨g5, hf⟩ := gif hf
    obtain ⟨r39, hr39, hf⟩ := obE hf
    refine y_V1 X cv_RX11_243 dX11_listRead_39 g5 (c_Ch_atStart d (Nat.le_trans (by decide) hd) (r31 l0 9) l2 r31 r39 hr39) (as := [(0, l2)]) rfl rfl (Nat.le_of_ble_eq_true rfl) z00 ?_
    refine z_lstore_n X dX11_listRead_42 (by decide) (ls' := [(3, (1, r39)), (0, (2, l0)), (1, (0, l1)), (2, (0, l2))]) rfl ?_
    refine z_iconst X dX11_listRead_43 kc_0 ?_
    refine z_istore X dX11_listRead_44 (by decide) (ls' := [(5, (0, 0)), (3, (1, r39)), (0, (2, l0)), (1, (0, l1)), (2, (0, l2))]) rfl ?_
    obtain ⟨q46, hq46, hf⟩ := obE hf
    have hx46_0 : ∀ e120 : Hp, (e120 : Hp) = q46 → ZV g x 6 e120 120 [(0, (2, l0))] [] := by
      intro e120 hq
      subst hq
      refine z_aload_n X dX11_listRead_120 0 rfl ?_
      refine y_get X fl_RX11_57 dX11_listRead_121 g1 ?_
      obtain ⟨g13, hf⟩ := gif hf
      obtain ⟨r124, hr124, hf⟩ := obE hf
      refine y_V0 X cv_RX11_362 dX11_listRead_124 g13 (c_Ms_clear d (Nat.le_trans (by decide) hd) (e120 l0 7) e120 r124 hr124) (as := []) rfl rfl (Nat.le_of_ble_eq_true rfl) z00 ?_
      cases hf
      exact z_vret X hK dX11_listRead_127
    exact z_weak [2, 3, 1, 0] rfl (z_loop (Z := (fun q : Int × Hp => ZV g x 6 q.2 46 [(0, (2, l0)), (1, (0, l1)), (3, (1, r39)), (5, (0, q.1))] [])) (E := fun q => q = q46) (fun q y hb hk => z_X_listRead_L46 X hd l0 l1 r39 (fun q => q = q46) hx46_0 q.1 q.2 y hb hk) LN (0, r31) q46 hq46 rfl)
  · have hf := ift hc7 hf
    cases hf
    exact z_vret X hK dX11_listRead_10
set_option maxHeartbeats 4000000 in
set_option maxRecDepth 100000 in
theorem z_X_knowMends_j109 {g : GP} {x : CX} {d : Nat} (X : zX g x RX11 cX11_knowMends 3 (d + 1)) (hd : 5 ≤ d) (l0 l1 l2 : Int) (h : Hp) (y : (Int × Hp) ⊕ (Hp)) (hf : X_knowMends_j109 l0 l1 l2 h = some y) (E : Hp → Prop) (hx0 : ∀ e : Hp, E (e) → ZV g x 3 e 115 [(0, (2, l0)), (1, (0, l1))] []) (hk : z_sum (fun q : Int × Hp => ZV g x 3 q.2 39 [(0, (2, l0)), (1, (0, l1)), (2, (0, q.1))] []) E y) : ZV g x 3 h 109 [(0, (2, l0)), (1, (0, l1)), (2, (0, l2))] [] := by
  unfold X_knowMends_j109 at hf
  refine z_iinc X dX11_knowMends_109 2 rfl (by decide) (ls' := [(2, (0, w32 (l2 + 1))), (0, (2, l0)), (1, (0, l1))]) rfl ?_
  refine z_goto X dX11_knowMends_112 rfl ?_
  cases hf
  exact z_weak [1, 2, 0] rfl hk
set_option maxHeartbeats 4000000 in
set_option maxRecDepth 100000 in
theorem z_X_knowMends_L39 {g : GP} {x : CX} {d : Nat} (X : zX g x RX11 cX11_knowMends 3 (d + 1)) (hd : 5 ≤ d) (l0 l1 : Int)  (E : Hp → Prop) (hx0 : ∀ e : Hp, E (e) → ZV g x 3 e 115 [(0, (2, l0)), (1, (0, l1))] []) (l2 : Int) (h : Hp) (y : (Int × Hp) ⊕ (Hp)) (hf : X_knowMends_L39 l0 l1 l2 h = some y) (hk : z_sum (fun q : Int × Hp => ZV g x 3 q.2 39 [(0, (2, l0)), (1, (0, l1)), (2, (0, q.1))] []) E y) : ZV g x 3 h 39 [(0, (2, l0)), (1, (0, l1)), (2, (0, l2))] [] := by
  unfold X_knowMends_L39 at hf
  refine z_iload_n X dX11_knowMends_39 2 rfl ?_
  refine z_bipush X dX11_knowMends_40 kb_26 kc_26 ?_
  refine z_icmp_ge X dX11_knowMends_42 rfl (fun hc42 => ?_) (fun hc42 => ?_)
  · have hf := ift hc42 hf
    cases hf
    exact z_weak [0, 1] rfl (hx0 _ hk)
  · have hf := iff' hc42 hf
    refine z_aload_n X dX11_knowMends_45 0 rfl ?_
    obtain ⟨g6, hf⟩ := gif hf
    refine y_get X fl_RX11_100 dX11_knowMends_46 g6 ?_
    obtain ⟨g7, hf⟩ := gif hf
    refine y_get X fl_RX11_164 dX11_knowMends_49 g7 ?_
    refine z_iload_n X dX11_knowMends_52 2 rfl ?_
    refine z_ishr X dX11_knowMends_53 ?_
    refine z_iconst X dX11_knowMends_54 kc_1 ?_
    refine z_iand X dX11_knowMends_55 ?_
    refine z_iconst X dX11_knowMends_56 kc_1 ?_
    refine z_icmp_ne X dX11_knowMends_57 rfl (fun hc57 => ?_) (fun hc57 => ?_)
    · have hf := iff' hc57 hf
      exact (z_X_knowMends_j109 X hd l0 l1 l2 h _ hf E hx0 hk)
    · have hf := ift hc57 hf
      refine z_aload_n X dX11_knowMends_60 0 rfl ?_
      refine y_get X fl_RX11_21 dX11_knowMends_61 g6 ?_
      refine z_iload_n X dX11_knowMends_64 1 rfl ?_
      obtain ⟨g8, hf⟩ := gif hf
      obtain ⟨r65, hr65, hf⟩ := obE hf
      refine y_V1 X cv_RX11_134 dX11_knowMends_65 g8 (c_By_at d (Nat.zero_le _) (h l0 2) l1 h r65 hr65) (as := [(0, l1)]) rfl rfl (Nat.le_of_ble_eq_true rfl) z00 ?_
      refine z_iload_n X dX11_knowMends_68 2 rfl ?_
      refine z_icmp_eq X dX11_knowMends_69 rfl (fun hc69 => ?_) (fun hc69 => ?_)
      · have hf := ift hc69 hf
        exact (z_X_knowMends_j109 X hd l0 l1 l2 h _ hf E hx0 hk)
      · have hf := iff' hc69 hf
        refine z_aload_n X dX11_knowMends_72 0 rfl ?_
        refine y_get X fl_RX11_57 dX11_knowMends_73 g6 ?_
        refine z_aload_n X dX11_knowMends_76 0 rfl ?_
        refine y_get X fl_RX11_21 dX11_knowMends_77 g6 ?_
        refine z_iload_n X dX11_knowMends_80 1 rfl ?_
        refine z_iload_n X dX11_knowMends_81 2 rfl ?_
        obtain ⟨g9, hf⟩ := gif hf
        obtain ⟨r82, hr82, hf⟩ := obE hf
        refine y_V0 X cv_RX11_365 dX11_knowMends_82 g9 (c_Ms_addChange d (Nat.le_trans (by decide) hd) (h l0 7) (h l0 2) l1 l2 h r82 hr82) (as := [(2, h l0 2), (0, l1), (0, l2)]) rfl rfl (Nat.le_of_ble_eq_true rfl) z00 ?_
        refine z_aload_n X dX11_knowMends_85 0 rfl ?_
        refine y_get X fl_RX11_57 dX11_knowMends_86 g6 ?_
        obtain ⟨g10, hf⟩ := gif hf
        refine y_get X fl_RX11_369 dX11_knowMends_89 g10 ?_
        refine z_bipush X dX11_knowMends_92 kb_64 kc_64 ?_
        refine z_icmp_ne X dX11_knowMends_94 rfl (fun hc94 => ?_) (fun hc94 => ?_)
        · have hf := iff' hc94 hf
          exact (z_X_knowMends_j109 X hd l0 l1 l2 r82 _ hf E hx0 hk)
        · have hf := ift hc94 hf
          refine z_aload_n X dX11_knowMends_97 0 rfl ?_
          refine z_iconst X dX11_knowMends_98 kc_5 ?_
          refine z_aload_n X dX11_knowMends_99 0 rfl ?_
          refine y_get X fl_RX11_21 dX11_knowMends_100 g6 ?_
          obtain ⟨g11, hf⟩ := gif hf
          refine y_get X fl_RX11_118 dX11_knowMends_103 g11 ?_
          obtain ⟨r106, hr106, hf⟩ := obE hf
          refine y_V0 X cv_RX11_370 dX11_knowMends_106 g6 (c_X_listRead d (Nat.le_trans (by decide) hd) l0 5 (r82 (r82 l0 2) 1) r82 r106 hr106) (as := [(0, 5), (0, r82 (r82 l0 2) 1)]) rfl rfl (Nat.le_of_ble_eq_true rfl) z00 ?_
          exact (z_X_knowMends_j109 X hd l0 l1 l2 r106 _ hf E hx0 hk)
