set_option maxHeartbeats 4000000 in
set_option maxRecDepth 100000 in
theorem z_Gr_putInOrder_L4 {g : GP} {x : CX} {d : Nat} (X : zX g x RX4 cX4_putInOrder 4 (d + 1)) (hd : 0 ≤ d) (l0 : Int)  (E : Hp → Prop) (hx0 : ∀ e : Hp, E (e) → ZV g x 4 e 51 [] []) (l1 l2 : Int) (h : Hp) (y : (Int × Int × Hp) ⊕ (Hp)) (hf : Gr_putInOrder_L4 l0 l1 l2 h = some y) (hk : z_sum (fun q : Int × Int × Hp => ZV g x 4 q.2.2 4 [(0, (2, l0)), (1, (0, q.1)), (2, (0, q.2.1))] []) E y) : ZV g x 4 h 4 [(0, (2, l0)), (1, (0, l1)), (2, (0, l2))] [] := by
  unfold Gr_putInOrder_L4 at hf
  refine z_iload_n X dX4_putInOrder_4 2 rfl ?_
  refine z_iconst X dX4_putInOrder_5 kc_3 ?_
  refine z_icmp_ge X dX4_putInOrder_6 rfl (fun hc6 => ?_) (fun hc6 => ?_)
  · have hf := ift hc6 hf
    cases hf
    exact z_weak [] rfl (hx0 _ hk)
  · have hf := iff' hc6 hf
    refine z_aload_n X dX4_putInOrder_9 0 rfl ?_
    obtain ⟨g1, hf⟩ := gif hf
    refine y_get X fl_RX4_56 dX4_putInOrder_10 g1 ?_
    refine z_iconst X dX4_putInOrder_13 kc_1 ?_
    refine z_isub X dX4_putInOrder_14 ?_
    refine z_istore_n X dX4_putInOrder_15 (by decide) (ls' := [(3, (0, w32 ((h l0 1) - 1))), (0, (2, l0)), (1, (0, l1)), (2, (0, l2))]) rfl ?_
    obtain ⟨q16, hq16, hf⟩ := obE hf
    have hx16_0 : ∀ e45 : Int × Hp, (e45 : Int × Hp) = q16 → ZV g x 4 e45.2 45 [(0, (2, l0)), (1, (0, e45.1)), (2, (0, l2))] [] := by
      intro e45 hq
      subst hq
      refine z_iinc X dX4_putInOrder_45 2 rfl (by decide) (ls' := [(2, (0, w32 (l2 + 1))), (0, (2, l0)), (1, (0, e45.1))]) rfl ?_
      refine z_goto X dX4_putInOrder_48 rfl ?_
      cases hf
      exact z_weak [1, 2, 0] rfl hk
    exact z_weak [1, 2, 3, 0] rfl (z_loop (Z := (fun q : Int × Int × Hp => ZV g x 4 q.2.2 16 [(0, (2, l0)), (1, (0, q.1)), (2, (0, l2)), (3, (0, q.2.1))] [])) (E := fun q => q = q16) (fun q y hb hk => z_Gr_putInOrder_L16 X hd l0 l2 (fun q => q = q16) hx16_0 q.1 q.2.1 q.2.2 y hb hk) LN (l1, w32 ((h l0 1) - 1), h) q16 hq16 rfl)
set_option maxHeartbeats 4000000 in
set_option maxRecDepth 100000 in
theorem c_Gr_putInOrder {l : Launch} {g : GP} (d : Nat) (hd : 1 ≤ d) (l0 : Int) (h : Hp) (y : Hp) (hf : Gr_putInOrder l0 h = some y) : zM l yX4_putInOrder cX4_putInOrder 4 none d 0 0 g 157 h [(2, l0)] 157 y none := by
  obtain ⟨d, rfl⟩ : ∃ k, d = k + 1 := ⟨d - 1, by omega⟩
  replace hd : 0 ≤ d := Nat.le_of_succ_le_succ hd
  refine z_start (by decide) (Nat.le_of_ble_eq_true rfl) (fun x X hK _ _ _ hl => ?_)
  show ZV g x 4 h 0 [(0, (2, l0))] []
  unfold Gr_putInOrder at hf
  refine z_iconst X dX4_putInOrder_0 kc_0 ?_
  refine z_istore_n X dX4_putInOrder_1 (by decide) (ls' := [(1, (0, 0)), (0, (2, l0))]) rfl ?_
  refine z_iconst X dX4_putInOrder_2 kc_0 ?_
  refine z_istore_n X dX4_putInOrder_3 (by decide) (ls' := [(2, (0, 0)), (1, (0, 0)), (0, (2, l0))]) rfl ?_
  obtain ⟨q4, hq4, hf⟩ := obE hf
  have hx4_0 : ∀ e51 : Hp, (e51 : Hp) = q4 → ZV g x 4 e51 51 [] [] := by
    intro e51 hq
    subst hq
    cases hf
    exact z_vret X hK dX4_putInOrder_51
  exact z_weak [2, 1, 0] rfl (z_loop (Z := (fun q : Int × Int × Hp => ZV g x 4 q.2.2 4 [(0, (2, l0)), (1, (0, q.1)), (2, (0, q.2.1))] [])) (E := fun q => q = q4) (fun q y hb hk => z_Gr_putInOrder_L4 X hd l0 (fun q => q = q4) hx4_0 q.1 q.2.1 q.2.2 y hb hk) LN (0, 0, h) q4 hq4 rfl)
set_option maxHeartbeats 4000000 in
set_option maxRecDepth 100000 in
theorem c_GR_goOn {l : Launch} {g : GP} (d : Nat) (hd : 1 ≤ d) (l0 l1 : Int) (h : Hp) (y : Hp) (hf : GR_goOn l0 l1 h = some y) : zM l yX5_goOn cX5_goOn 2 none d 0 0 g 157 h [(2, l0), (0, l1)] 157 y none := by
  obtain ⟨d, rfl⟩ : ∃ k, d = k + 1 := ⟨d - 1, by omega⟩
  replace hd : 0 ≤ d := Nat.le_of_succ_le_succ hd
  refine z_start (by decide) (Nat.le_of_ble_eq_true rfl) (fun x X hK _ _ _ hl => ?_)
  show ZV g x 2 h 0 [(0, (2, l0)), (1, (0, l1))] []
  unfold GR_goOn at hf
  refine z_aload_n X dX5_goOn_0 0 rfl ?_
  refine z_aload_n X dX5_goOn_1 0 rfl ?_
  obtain ⟨g1, hf⟩ := gif hf
  refine y_get X fl_RX5_23 dX5_goOn_2 g1 ?_
  refine z_aload_n X dX5_goOn_5 0 rfl ?_
  refine y_get X fl_RX5_40 dX5_goOn_6 g1 ?_
  refine z_iload_n X dX5_goOn_9 1 rfl ?_
  refine z_iadd X dX5_goOn_10 ?_
  obtain ⟨g2, hf⟩ := gif hf
  obtain ⟨r11, hr11, hf⟩ := obE hf
  refine y_V1 X cv_RX5_36 dX5_goOn_11 g2 (c_By_afterBlanks d (Nat.zero_le _) (h l0 2) (w32 ((h l0 4) + l1)) h r11 hr11) (as := [(0, w32 ((h l0 4) + l1))]) rfl rfl (Nat.le_of_ble_eq_true rfl) z00 ?_
  refine y_put X fl_RX5_40 dX5_goOn_14 g1 rfl (by decide) ?_
  let h_1 : Hp := hput h l0 4 r11
  cases hf
  exact z_vret X hK dX5_goOn_17
set_option maxHeartbeats 4000000 in
set_option maxRecDepth 100000 in
theorem z_GR_isWord_j74 {g : GP} {x : CX} {d : Nat} (X : zX g x RX5 cX5_isWord 1 (d + 1)) (hd : 0 ≤ d) (h : Hp) (y : Int) (hf : GR_isWord_j74 h = some y) (hK : zE g x (some .boolean) 0 0 157 h (some (0, y))) : ZV g x 1 h 74 [] [] := by
  unfold GR_isWord_j74 at hf
  refine z_iconst X dX5_isWord_74 kc_0 ?_
  cases hf
  exact z_zret X hK (Or.inl rfl) dX5_isWord_75
set_option maxHeartbeats 4000000 in
set_option maxRecDepth 100000 in
theorem c_GR_isWord {l : Launch} {g : GP} (d : Nat) (hd : 1 ≤ d) (l0 : Int) (h : Hp) (y : Int) (hf : GR_isWord l0 h = some y) : zM l yX5_isWord cX5_isWord 1 (some .boolean) d 0 0 g 157 h [(2, l0)] 157 h (some (0, y)) := by
  obtain ⟨d, rfl⟩ : ∃ k, d = k + 1 := ⟨d - 1, by omega⟩
  replace hd : 0 ≤ d := Nat.le_of_succ_le_succ hd
  refine z_start (by decide) (Nat.le_of_ble_eq_true rfl) (fun x X hK _ _ _ hl => ?_)
  show ZV g x 1 h 0 [(0, (2, l0))] []
  unfold GR_isWord at hf
  refine z_aload_n X dX5_isWord_0 0 rfl ?_
  obtain ⟨g1, hf⟩ := gif hf
  refine y_get X fl_RX5_23 dX5_isWord_1 g1 ?_
  refine z_aload_n X dX5_isWord_4 0 rfl ?_
  refine y_get X fl_RX5_40 dX5_isWord_5 g1 ?_
  obtain ⟨g2, hf⟩ := gif hf
  obtain ⟨r8, hr8, hf⟩ := obE hf
  refine y_V1 X cv_RX5_52 dX5_isWord_8 g2 (c_By_at d (Nat.zero_le _) (h l0 2) (h l0 4) h r8 hr8) (as := [(0, h l0 4)]) rfl rfl (Nat.le_of_ble_eq_true rfl) z00 ?_
  refine z_bipush X dX5_isWord_11 kb_116 kc_116 ?_
  refine z_icmp_ne X dX5_isWord_13 rfl (fun hc13 => ?_) (fun hc13 => ?_)
  · have hf := iff' hc13 hf
    exact z_weak [] rfl (z_GR_isWord_j74 X hd  h _ hf hK)
  · have hf := ift hc13 hf
    refine z_aload_n X dX5_isWord_16 0 rfl ?_
    refine y_get X fl_RX5_23 dX5_isWord_17 g1 ?_
    refine z_aload_n X dX5_isWord_20 0 rfl ?_
    refine y_get X fl_RX5_40 dX5_isWord_21 g1 ?_
    refine z_iconst X dX5_isWord_24 kc_1 ?_
    refine z_iadd X dX5_isWord_25 ?_
    obtain ⟨r26, hr26, hf⟩ := obE hf
    refine y_V1 X cv_RX5_52 dX5_isWord_26 g2 (c_By_at d (Nat.zero_le _) (h l0 2) (w32 ((h l0 4) + 1)) h r26 hr26) (as := [(0, w32 ((h l0 4) + 1))]) rfl rfl (Nat.le_of_ble_eq_true rfl) z00 ?_
    refine z_bipush X dX5_isWord_29 kb_114 kc_114 ?_
    refine z_icmp_ne X dX5_isWord_31 rfl (fun hc31 => ?_) (fun hc31 => ?_)
    · have hf := iff' hc31 hf
      exact z_weak [] rfl (z_GR_isWord_j74 X hd  h _ hf hK)
    · have hf := ift hc31 hf
      refine z_aload_n X dX5_isWord_34 0 rfl ?_
      refine y_get X fl_RX5_23 dX5_isWord_35 g1 ?_
      refine z_aload_n X dX5_isWord_38 0 rfl ?_
      refine y_get X fl_RX5_40 dX5_isWord_39 g1 ?_
      refine z_iconst X dX5_isWord_42 kc_2 ?_
      refine z_iadd X dX5_isWord_43 ?_
      obtain ⟨r44, hr44, hf⟩ := obE hf
      refine y_V1 X cv_RX5_52 dX5_isWord_44 g2 (c_By_at d (Nat.zero_le _) (h l0 2) (w32 ((h l0 4) + 2)) h r44 hr44) (as := [(0, w32 ((h l0 4) + 2))]) rfl rfl (Nat.le_of_ble_eq_true rfl) z00 ?_
      refine z_bipush X dX5_isWord_47 kb_101 kc_101 ?_
      refine z_icmp_ne X dX5_isWord_49 rfl (fun hc49 => ?_) (fun hc49 => ?_)
      · have hf := iff' hc49 hf
        exact z_weak [] rfl (z_GR_isWord_j74 X hd  h _ hf hK)
      · have hf := ift hc49 hf
        refine z_aload_n X dX5_isWord_52 0 rfl ?_
        refine y_get X fl_RX5_23 dX5_isWord_53 g1 ?_
        refine z_aload_n X dX5_isWord_56 0 rfl ?_
        refine y_get X fl_RX5_40 dX5_isWord_57 g1 ?_
        refine z_iconst X dX5_isWord_60 kc_3 ?_
        refine z_iadd X dX5_isWord_61 ?_
        obtain ⟨r62, hr62, hf⟩ := obE hf
        refine y_V1 X cv_RX5_52 dX5_isWord_62 g2 (c_By_at d (Nat.zero_le _) (h l0 2) (w32 ((h l0 4) + 3)) h r62 hr62) (as := [(0, w32 ((h l0 4) + 3))]) rfl rfl (Nat.le_of_ble_eq_true rfl) z00 ?_
        refine z_bipush X dX5_isWord_65 kb_101 kc_101 ?_
        refine z_icmp_ne X dX5_isWord_67 rfl (fun hc67 => ?_) (fun hc67 => ?_)
        · have hf := iff' hc67 hf
          exact z_weak [] rfl (z_GR_isWord_j74 X hd  h _ hf hK)
        · have hf := ift hc67 hf
          refine z_iconst X dX5_isWord_70 kc_1 ?_
          refine z_goto X dX5_isWord_71 rfl ?_
          cases hf
          exact z_zret X hK (Or.inr rfl) dX5_isWord_75
set_option maxHeartbeats 4000000 in
set_option maxRecDepth 100000 in
theorem c_GR_refuse {l : Launch} {g : GP} (d : Nat) (hd : 0 ≤ d) (l0 l1 : Int) (h : Hp) (y : Hp) (hf : GR_refuse l0 l1 h = some y) : zM l yX5_refuse cX5_refuse 2 none d 0 0 g 157 h [(2, l0), (0, l1)] 157 y none := by
  refine z_start (by decide) (Nat.le_of_ble_eq_true rfl) (fun x X hK _ _ _ hl => ?_)
  show ZV g x 2 h 0 [(0, (2, l0)), (1, (0, l1))] []
  unfold GR_refuse at hf
  refine z_aload_n X dX5_refuse_0 0 rfl ?_
  refine z_iload_n X dX5_refuse_1 1 rfl ?_
  obtain ⟨g1, hf⟩ := gif hf
  refine y_put X fl_RX5_9 dX5_refuse_2 g1 rfl (by decide) ?_
  let h_1 : Hp := hput h l0 0 l1
  refine z_aload_n X dX5_refuse_5 0 rfl ?_
  refine z_aload_n X dX5_refuse_6 0 rfl ?_
  refine y_get X fl_RX5_40 dX5_refuse_7 g1 ?_
  refine y_put X fl_RX5_15 dX5_refuse_10 g1 rfl (by decide) ?_
  let h_2 : Hp := hput h_1 l0 1 (h_1 l0 4)
  cases hf
  exact z_vret X hK dX5_refuse_13
set_option maxHeartbeats 4000000 in
set_option maxRecDepth 100000 in
theorem c_GR_sign {l : Launch} {g : GP} (d : Nat) (hd : 1 ≤ d) (l0 : Int) (h : Hp) (y : Int) (hf : GR_sign l0 h = some y) : zM l yX5_sign cX5_sign 1 (some .int) d 0 0 g 157 h [(2, l0)] 157 h (some (0, y)) := by
  obtain ⟨d, rfl⟩ : ∃ k, d = k + 1 := ⟨d - 1, by omega⟩
  replace hd : 0 ≤ d := Nat.le_of_succ_le_succ hd
  refine z_start (by decide) (Nat.le_of_ble_eq_true rfl) (fun x X hK _ _ _ hl => ?_)
  show ZV g x 1 h 0 [(0, (2, l0))] []
  unfold GR_sign at hf
  refine z_aload_n X dX5_sign_0 0 rfl ?_
  obtain ⟨g1, hf⟩ := gif hf
  refine y_get X fl_RX5_23 dX5_sign_1 g1 ?_
  refine z_aload_n X dX5_sign_4 0 rfl ?_
  refine y_get X fl_RX5_40 dX5_sign_5 g1 ?_
  obtain ⟨g2, hf⟩ := gif hf
  obtain ⟨r8, hr8, hf⟩ := obE hf
  refine y_V1 X cv_RX5_52 dX5_sign_8 g2 (c_By_at d (Nat.zero_le _) (h l0 2) (h l0 4) h r8 hr8) (as := [(0, h l0 4)]) rfl rfl (Nat.le_of_ble_eq_true rfl) z00 ?_
  cases hf
  exact z_iret X hK dX5_sign_11
set_option maxHeartbeats 4000000 in
set_option maxRecDepth 100000 in
theorem c_GR_readLineEnd {l : Launch} {g : GP} (d : Nat) (hd : 2 ≤ d) (l0 : Int) (h : Hp) (y : Hp) (hf : GR_readLineEnd l0 h = some y) : zM l yX5_readLineEnd cX5_readLineEnd 1 none d 0 0 g 157 h [(2, l0)] 157 y none := by
  obtain ⟨d, rfl⟩ : ∃ k, d = k + 1 := ⟨d - 1, by omega⟩
  replace hd : 1 ≤ d := Nat.le_of_succ_le_succ hd
  refine z_start (by decide) (Nat.le_of_ble_eq_true rfl) (fun x X hK _ _ _ hl => ?_)
  show ZV g x 1 h 0 [(0, (2, l0))] []
  unfold GR_readLineEnd at hf
  refine z_aload_n X dX5_readLineEnd_0 0 rfl ?_
  obtain ⟨g1, hf⟩ := gif hf
  refine y_get X fl_RX5_27 dX5_readLineEnd_1 g1 ?_
  obtain ⟨g2, hf⟩ := gif hf
  obtain ⟨r4, hr4, hf⟩ := obE hf
  refine y_V0 X cv_RX5_87 dX5_readLineEnd_4 g2 (c_Gr_closeTree d (Nat.zero_le _) (h l0 3) h r4 hr4) (as := []) rfl rfl (Nat.le_of_ble_eq_true rfl) z00 ?_
  refine z_aload_n X dX5_readLineEnd_7 0 rfl ?_
  obtain ⟨r8, hr8, hf⟩ := obE hf
  refine y_V1 X cv_RX5_68 dX5_readLineEnd_8 g1 (c_GR_sign d (Nat.le_trans (by decide) hd) l0 r4 r8 hr8) (as := []) rfl rfl (Nat.le_of_ble_eq_true rfl) z00 ?_
  refine z_bipush X dX5_readLineEnd_11 kb_59 kc_59 ?_
  refine z_icmp_eq X dX5_readLineEnd_13 rfl (fun hc13 => ?_) (fun hc13 => ?_)
  · have hf := ift hc13 hf
    refine z_aload_n X dX5_readLineEnd_22 0 rfl ?_
    refine z_iconst X dX5_readLineEnd_23 kc_1 ?_
    obtain ⟨r24, hr24, hf⟩ := obE hf
    refine y_V0 X cv_RX5_65 dX5_readLineEnd_24 g1 (c_GR_goOn d (Nat.le_trans (by decide) hd) l0 1 r4 r24 hr24) (as := [(0, 1)]) rfl rfl (Nat.le_of_ble_eq_true rfl) z00 ?_
    cases hf
    exact z_vret X hK dX5_readLineEnd_27
  · have hf := iff' hc13 hf
    refine z_aload_n X dX5_readLineEnd_16 0 rfl ?_
    refine z_iconst X dX5_readLineEnd_17 kc_1 ?_
    obtain ⟨r18, hr18, hf⟩ := obE hf
    refine y_V0 X cv_RX5_59 dX5_readLineEnd_18 g1 (c_GR_refuse d (Nat.zero_le _) l0 1 r4 r18 hr18) (as := [(0, 1)]) rfl rfl (Nat.le_of_ble_eq_true rfl) z00 ?_
    cases hf
    exact z_vret X hK dX5_readLineEnd_21
set_option maxHeartbeats 4000000 in
set_option maxRecDepth 100000 in
theorem z_GR_isLabel_j16 {g : GP} {x : CX} {d : Nat} (X : zX g x RX5 cX5_isLabel 1 d) (h : Hp) (y : Int) (hf : GR_isLabel_j16  = some y) (hK : zE g x (some .boolean) 0 0 157 h (some (0, y))) : ZV g x 1 h 16 [] [] := by
  unfold GR_isLabel_j16 at hf
  refine z_iconst X dX5_isLabel_16 kc_0 ?_
  cases hf
  exact z_zret X hK (Or.inl rfl) dX5_isLabel_17
set_option maxHeartbeats 4000000 in
set_option maxRecDepth 100000 in
theorem c_GR_isLabel {l : Launch} {g : GP} (d : Nat) (hd : 0 ≤ d) (l0 : Int) (h : Hp) (y : Int) (hf : GR_isLabel l0 = some y) : zM l yX5_isLabel cX5_isLabel 1 (some .boolean) d 0 0 g 157 h [(0, l0)] 157 h (some (0, y)) := by
  refine z_start (by decide) (Nat.le_of_ble_eq_true rfl) (fun x X hK _ _ _ hl => ?_)
  show ZV g x 1 h 0 [(0, (0, l0))] []
  unfold GR_isLabel at hf
  refine z_iload_n X dX5_isLabel_0 0 rfl ?_
  refine z_bipush X dX5_isLabel_1 kb_65 kc_65 ?_
  refine z_icmp_lt X dX5_isLabel_3 rfl (fun hc3 => ?_) (fun hc3 => ?_)
  · have hf := ift hc3 hf
    exact z_weak [] rfl (z_GR_isLabel_j16 X  h _ hf hK)
  · have hf := iff' hc3 hf
    refine z_iload_n X dX5_isLabel_6 0 rfl ?_
    refine z_bipush X dX5_isLabel_7 kb_90 kc_90 ?_
    refine z_icmp_gt X dX5_isLabel_9 rfl (fun hc9 => ?_) (fun hc9 => ?_)
    · have hf := ift hc9 hf
      exact z_weak [] rfl (z_GR_isLabel_j16 X  h _ hf hK)
    · have hf := iff' hc9 hf
      refine z_iconst X dX5_isLabel_12 kc_1 ?_
      refine z_goto X dX5_isLabel_13 rfl ?_
      cases hf
      exact z_zret X hK (Or.inr rfl) dX5_isLabel_17
set_option maxHeartbeats 4000000 in
set_option maxRecDepth 100000 in
theorem z_GR_readOpening_j108 {g : GP} {x : CX} {d : Nat} (X : zX g x RX5 cX5_readOpening 1 (d + 1)) (hd : 1 ≤ d) (l0 s0 s1 s2 : Int) (h : Hp) (y : Hp) (hf : GR_readOpening_j108 l0 s0 s1 s2 h = some y) (hK : zE g x none 0 0 157 y none) : ZV g x 1 h 108 [(0, (2, l0))] [(0, s0), (0, s1), (2, s2)] := by
  unfold GR_readOpening_j108 at hf
  obtain ⟨g5, hf⟩ := gif hf
  refine y_iast X dX5_readOpening_108 g5 ?_
  let h_2 : Hp := hput h s2 s1 s0
  refine z_aload_n X dX5_readOpening_109 0 rfl ?_
  refine z_iconst X dX5_readOpening_110 kc_1 ?_
  obtain ⟨g6, hf⟩ := gif hf
  obtain ⟨r111, hr111, hf⟩ := obE hf
  refine y_V0 X cv_RX5_65 dX5_readOpening_111 g6 (c_GR_goOn d (Nat.le_trans (by decide) hd) l0 1 h_2 r111 hr111) (as := [(0, 1)]) rfl rfl (Nat.le_of_ble_eq_true rfl) z00 ?_
  cases hf
  exact z_vret X hK dX5_readOpening_114
set_option maxHeartbeats 4000000 in
set_option maxRecDepth 100000 in
theorem z_GR_readOpening_j83 {g : GP} {x : CX} {d : Nat} (X : zX g x RX5 cX5_readOpening 1 (d + 1)) (hd : 1 ≤ d) (l0 : Int) (h : Hp) (y : Hp) (hf : GR_readOpening_j83 l0 h = some y) (hK : zE g x none 0 0 157 y none) : ZV g x 1 h 83 [(0, (2, l0))] [] := by
  unfold GR_readOpening_j83 at hf
  refine z_aload_n X dX5_readOpening_83 0 rfl ?_
  obtain ⟨g3, hf⟩ := gif hf
  refine y_get X fl_RX5_27 dX5_readOpening_84 g3 ?_
  obtain ⟨g4, hf⟩ := gif hf
  refine y_get X fl_RX5_101 dX5_readOpening_87 g4 ?_
  refine z_aload_n X dX5_readOpening_90 0 rfl ?_
  refine y_get X fl_RX5_75 dX5_readOpening_91 g3 ?_
  refine z_aload_n X dX5_readOpening_94 0 rfl ?_
  obtain ⟨r95, hr95, hf⟩ := obE hf
  refine y_V1 X cv_RX5_68 dX5_readOpening_95 g3 (c_GR_sign d (Nat.le_trans (by decide) hd) l0 h r95 hr95) (as := []) rfl rfl (Nat.le_of_ble_eq_true rfl) z00 ?_
  refine z_bipush X dX5_readOpening_98 kb_33 kc_33 ?_
  refine z_icmp_ne X dX5_readOpening_100 rfl (fun hc100 => ?_) (fun hc100 => ?_)
  · rw [if_neg hc100] at hf
    refine z_iconst X dX5_readOpening_107 kc_2 ?_
    exact (z_GR_readOpening_j108 X hd l0 2 (h l0 5) (h (h l0 3) 10) h _ hf hK)
  · rw [if_pos hc100] at hf
    refine z_iconst X dX5_readOpening_103 kc_1 ?_
    refine z_goto X dX5_readOpening_104 rfl ?_
    exact (z_GR_readOpening_j108 X hd l0 1 (h l0 5) (h (h l0 3) 10) h _ hf hK)
set_option maxHeartbeats 4000000 in
set_option maxRecDepth 100000 in
theorem c_GR_readOpening {l : Launch} {g : GP} (d : Nat) (hd : 2 ≤ d) (l0 : Int) (h : Hp) (y : Hp) (hf : GR_readOpening l0 h = some y) : zM l yX5_readOpening cX5_readOpening 1 none d 0 0 g 157 h [(2, l0)] 157 y none := by
  obtain ⟨d, rfl⟩ : ∃ k, d = k + 1 := ⟨d - 1, by omega⟩
  replace hd : 1 ≤ d := Nat.le_of_succ_le_succ hd
  refine z_start (by decide) (Nat.le_of_ble_eq_true rfl) (fun x X hK _ _ _ hl => ?_)
  show ZV g x 1 h 0 [(0, (2, l0))] []
  unfold GR_readOpening at hf
  refine z_aload_n X dX5_readOpening_0 0 rfl ?_
  refine z_iconst X dX5_readOpening_1 kc_1 ?_
  obtain ⟨g1, hf⟩ := gif hf
  obtain ⟨r2, hr2, hf⟩ := obE hf
  refine y_V0 X cv_RX5_65 dX5_readOpening_2 g1 (c_GR_goOn d (Nat.le_trans (by decide) hd) l0 1 h r2 hr2) (as := [(0, 1)]) rfl rfl (Nat.le_of_ble_eq_true rfl) z00 ?_
  refine z_aload_n X dX5_readOpening_5 0 rfl ?_
  obtain ⟨r6, hr6, hf⟩ := obE hf
  refine y_V1 X cv_RX5_68 dX5_readOpening_6 g1 (c_GR_sign d (Nat.le_trans (by decide) hd) l0 r2 r6 hr6) (as := []) rfl rfl (Nat.le_of_ble_eq_true rfl) z00 ?_
  obtain ⟨r9, hr9, hf⟩ := obE hf
  refine y_S1 X cs_RX5_90 dX5_readOpening_9 (c_GR_isLabel d (Nat.zero_le _) r6 r2 r9 hr9) (as := [(0, r6)]) rfl rfl (Nat.le_of_ble_eq_true rfl) z00 ?_
  refine z_if_ne X dX5_readOpening_12 rfl (fun hc12 => ?_) (fun hc12 => ?_)
  · have hf := iff' hc12 hf
    refine z_aload_n X dX5_readOpening_21 0 rfl ?_
    refine y_get X fl_RX5_27 dX5_readOpening_22 g1 ?_
    obtain ⟨g2, hf⟩ := gif hf
    obtain ⟨r25, hr25, hf⟩ := obE hf
    refine y_V1 X cv_RX5_94 dX5_readOpening_25 g2 (c_Gr_hasRoomForNode d (Nat.zero_le _) (r2 l0 3) r2 r25 hr25) (as := []) rfl rfl (Nat.le_of_ble_eq_true rfl) z00 ?_
    refine z_if_ne X dX5_readOpening_28 rfl (fun hc28 => ?_) (fun hc28 => ?_)
    · have hf := iff' hc28 hf
      refine z_aload_n X dX5_readOpening_37 0 rfl ?_
      refine z_aload_n X dX5_readOpening_38 0 rfl ?_
      refine y_get X fl_RX5_27 dX5_readOpening_39 g1 ?_
      refine z_iconst X dX5_readOpening_42 kc_0 ?_
      refine z_aload_n X dX5_readOpening_43 0 rfl ?_
      obtain ⟨r44, hr44, hf⟩ := obE hf
      refine y_V1 X cv_RX5_68 dX5_readOpening_44 g1 (c_GR_sign d (Nat.le_trans (by decide) hd) l0 r2 r44 hr44) (as := []) rfl rfl (Nat.le_of_ble_eq_true rfl) z00 ?_
      refine z_bipush X dX5_readOpening_47 kb_65 kc_65 ?_
      refine z_isub X dX5_readOpening_49 ?_
      refine z_aload_n X dX5_readOpening_50 0 rfl ?_
      refine y_get X fl_RX5_75 dX5_readOpening_51 g1 ?_
      obtain ⟨r54, hr54, hf⟩ := obE hf
      refine y_V1 X cv_RX5_97 dX5_readOpening_54 g2 (c_Gr_addNode d (Nat.zero_le _) (r2 l0 3) 0 (w32 (r44 - 65)) (r2 l0 5) r2 r54 hr54) (as := [(0, 0), (0, w32 (r44 - 65)), (0, r2 l0 5)]) rfl rfl (Nat.le_of_ble_eq_true rfl) z00 ?_
      refine y_put X fl_RX5_75 dX5_readOpening_57 g1 rfl (by decide) ?_
      let h_1 : Hp := hput r54.2 l0 5 r54.1
      refine z_aload_n X dX5_readOpening_60 0 rfl ?_
      refine z_iconst X dX5_readOpening_61 kc_1 ?_
      obtain ⟨r62, hr62, hf⟩ := obE hf
      refine y_V0 X cv_RX5_65 dX5_readOpening_62 g1 (c_GR_goOn d (Nat.le_trans (by decide) hd) l0 1 h_1 r62 hr62) (as := [(0, 1)]) rfl rfl (Nat.le_of_ble_eq_true rfl) z00 ?_
      refine z_aload_n X dX5_readOpening_65 0 rfl ?_
      obtain ⟨r66, hr66, hf⟩ := obE hf
      refine y_V1 X cv_RX5_68 dX5_readOpening_66 g1 (c_GR_sign d (Nat.le_trans (by decide) hd) l0 r62 r66 hr66) (as := []) rfl rfl (Nat.le_of_ble_eq_true rfl) z00 ?_
      refine z_bipush X dX5_readOpening_69 kb_33 kc_33 ?_
      refine z_icmp_eq X dX5_readOpening_71 rfl (fun hc71 => ?_) (fun hc71 => ?_)
      · have hf := ift hc71 hf
        exact (z_GR_readOpening_j83 X hd l0 r62 _ hf hK)
      · have hf := iff' hc71 hf
        refine z_aload_n X dX5_readOpening_74 0 rfl ?_
        obtain ⟨r75, hr75, hf⟩ := obE hf
        refine y_V1 X cv_RX5_68 dX5_readOpening_75 g1 (c_GR_sign d (Nat.le_trans (by decide) hd) l0 r62 r75 hr75) (as := []) rfl rfl (Nat.le_of_ble_eq_true rfl) z00 ?_
        refine z_bipush X dX5_readOpening_78 kb_43 kc_43 ?_
        refine z_icmp_ne X dX5_readOpening_80 rfl (fun hc80 => ?_) (fun hc80 => ?_)
        · have hf := iff' hc80 hf
          cases hf
          exact z_vret X hK dX5_readOpening_114
        · have hf := ift hc80 hf
          exact (z_GR_readOpening_j83 X hd l0 r62 _ hf hK)
    · have hf := ift hc28 hf
      refine z_aload_n X dX5_readOpening_31 0 rfl ?_
      refine z_iconst X dX5_readOpening_32 kc_3 ?_
      obtain ⟨r33, hr33, hf⟩ := obE hf
      refine y_V0 X cv_RX5_59 dX5_readOpening_33 g1 (c_GR_refuse d (Nat.zero_le _) l0 3 r2 r33 hr33) (as := [(0, 3)]) rfl rfl (Nat.le_of_ble_eq_true rfl) z00 ?_
      cases hf
      exact z_vret X hK dX5_readOpening_36
  · have hf := ift hc12 hf
    refine z_aload_n X dX5_readOpening_15 0 rfl ?_
    refine z_iconst X dX5_readOpening_16 kc_1 ?_
    obtain ⟨r17, hr17, hf⟩ := obE hf
    refine y_V0 X cv_RX5_59 dX5_readOpening_17 g1 (c_GR_refuse d (Nat.zero_le _) l0 1 r2 r17 hr17) (as := [(0, 1)]) rfl rfl (Nat.le_of_ble_eq_true rfl) z00 ?_
    cases hf
    exact z_vret X hK dX5_readOpening_20
set_option maxHeartbeats 4000000 in
set_option maxRecDepth 100000 in
theorem z_X_isLetter_j16 {g : GP} {x : CX} {d : Nat} (X : zX g x RX11 cX11_isLetter 1 d) (h : Hp) (y : Int) (hf : X_isLetter_j16  = some y) (hK : zE g x (some .boolean) 0 0 157 h (some (0, y))) : ZV g x 1 h 16 [] [] := by
  unfold X_isLetter_j16 at hf
  refine z_iconst X dX11_isLetter_16 kc_0 ?_
  cases hf
  exact z_zret X hK (Or.inl rfl) dX11_isLetter_17
set_option maxHeartbeats 4000000 in
set_option maxRecDepth 100000 in
theorem c_X_isLetter {l : Launch} {g : GP} (d : Nat) (hd : 0 ≤ d) (l0 : Int) (h : Hp) (y : Int) (hf : X_isLetter l0 = some y) : zM l yX11_isLetter cX11_isLetter 1 (some .boolean) d 0 0 g 157 h [(0, l0)] 157 h (some (0, y)) := by
  refine z_start (by decide) (Nat.le_of_ble_eq_true rfl) (fun x X hK _ _ _ hl => ?_)
  show ZV g x 1 h 0 [(0, (0, l0))] []
  unfold X_isLetter at hf
  refine z_iload_n X dX11_isLetter_0 0 rfl ?_
  refine z_bipush X dX11_isLetter_1 kb_97 kc_97 ?_
  refine z_icmp_lt X dX11_isLetter_3 rfl (fun hc3 => ?_) (fun hc3 => ?_)
  · have hf := ift hc3 hf
    exact z_weak [] rfl (z_X_isLetter_j16 X  h _ hf hK)
  · have hf := iff' hc3 hf
    refine z_iload_n X dX11_isLetter_6 0 rfl ?_
    refine z_bipush X dX11_isLetter_7 kb_122 kc_122 ?_
    refine z_icmp_gt X dX11_isLetter_9 rfl (fun hc9 => ?_) (fun hc9 => ?_)
    · have hf := ift hc9 hf
      exact z_weak [] rfl (z_X_isLetter_j16 X  h _ hf hK)
    · have hf := iff' hc9 hf
      refine z_iconst X dX11_isLetter_12 kc_1 ?_
      refine z_goto X dX11_isLetter_13 rfl ?_
      cases hf
      exact z_zret X hK (Or.inr rfl) dX11_isLetter_17
set_option maxHeartbeats 4000000 in
set_option maxRecDepth 100000 in
theorem z_GR_lacksLetter_j55 {g : GP} {x : CX} {d : Nat} (X : zX g x RX5 cX5_lacksLetter 2 (d + 1)) (hd : 0 ≤ d) (h : Hp) (y : Int) (hf : GR_lacksLetter_j55 h = some y) (hK : zE g x (some .boolean) 0 0 157 h (some (0, y))) : ZV g x 2 h 55 [] [] := by
  unfold GR_lacksLetter_j55 at hf
  refine z_iconst X dX5_lacksLetter_55 kc_0 ?_
  cases hf
  exact z_zret X hK (Or.inl rfl) dX5_lacksLetter_56
set_option maxHeartbeats 4000000 in
set_option maxRecDepth 100000 in
theorem c_GR_lacksLetter {l : Launch} {g : GP} (d : Nat) (hd : 1 ≤ d) (l0 : Int) (h : Hp) (y : Int) (hf : GR_lacksLetter l0 h = some y) : zM l yX5_lacksLetter cX5_lacksLetter 2 (some .boolean) d 0 0 g 157 h [(2, l0)] 157 h (some (0, y)) := by
  obtain ⟨d, rfl⟩ : ∃ k, d = k + 1 := ⟨d - 1, by omega⟩
  replace hd : 0 ≤ d := Nat.le_of_succ_le_succ hd
  refine z_start (by decide) (Nat.le_of_ble_eq_true rfl) (fun x X hK _ _ _ hl => ?_)
  show ZV g x 2 h 0 [(0, (2, l0))] []
  unfold GR_lacksLetter at hf
  refine z_aload_n X dX5_lacksLetter_0 0 rfl ?_
  obtain ⟨g1, hf⟩ := gif hf
  refine y_get X fl_RX5_27 dX5_lacksLetter_1 g1 ?_
  obtain ⟨g2, hf⟩ := gif hf
  refine y_get X fl_RX5_62 dX5_lacksLetter_4 g2 ?_
  refine z_iconst X dX5_lacksLetter_7 kc_1 ?_
  refine z_isub X dX5_lacksLetter_8 ?_
  refine z_istore_n X dX5_lacksLetter_9 (by decide) (ls' := [(1, (0, w32 ((h (h l0 3) 0) - 1))), (0, (2, l0))]) rfl ?_
  refine z_aload_n X dX5_lacksLetter_10 1 rfl ?_
  refine y_get X fl_RX5_27 dX5_lacksLetter_11 g1 ?_
  refine y_get X fl_RX5_129 dX5_lacksLetter_14 g2 ?_
  refine z_aload_n X dX5_lacksLetter_17 1 rfl ?_
  refine y_get X fl_RX5_75 dX5_lacksLetter_18 g1 ?_
  obtain ⟨g3, hf⟩ := gif hf
  refine y_iald X dX5_lacksLetter_21 g3 ?_
  refine z_if_ne X dX5_lacksLetter_22 rfl (fun hc22 => ?_) (fun hc22 => ?_)
  · have hf := iff' hc22 hf
    exact z_weak [] rfl (z_GR_lacksLetter_j55 X hd  h _ hf hK)
  · have hf := ift hc22 hf
    refine z_aload_n X dX5_lacksLetter_25 1 rfl ?_
    refine y_get X fl_RX5_27 dX5_lacksLetter_26 g1 ?_
    refine y_get X fl_RX5_132 dX5_lacksLetter_29 g2 ?_
    refine z_aload_n X dX5_lacksLetter_32 1 rfl ?_
    refine y_get X fl_RX5_75 dX5_lacksLetter_33 g1 ?_
    obtain ⟨g4, hf⟩ := gif hf
    refine y_zald X dX5_lacksLetter_36 g4 ?_
    refine z_if_ne X dX5_lacksLetter_37 rfl (fun hc37 => ?_) (fun hc37 => ?_)
    · have hf := iff' hc37 hf
      refine z_iconst X dX5_lacksLetter_51 kc_1 ?_
      refine z_goto X dX5_lacksLetter_52 rfl ?_
      cases hf
      exact z_zret X hK (Or.inr rfl) dX5_lacksLetter_56
    · have hf := ift hc37 hf
      refine z_aload_n X dX5_lacksLetter_40 1 rfl ?_
      refine y_get X fl_RX5_27 dX5_lacksLetter_41 g1 ?_
      refine z_iload_n X dX5_lacksLetter_44 0 rfl ?_
      obtain ⟨r45, hr45, hf⟩ := obE hf
      refine y_V1 X cv_RX5_136 dX5_lacksLetter_45 g2 (c_Gr_placesOf d (Nat.zero_le _) (h l0 3) (w32 ((h (h l0 3) 0) - 1)) h r45 hr45) (as := [(0, w32 ((h (h l0 3) 0) - 1))]) rfl rfl (Nat.le_of_ble_eq_true rfl) z00 ?_
      refine z_if_le X dX5_lacksLetter_48 rfl (fun hc48 => ?_) (fun hc48 => ?_)
      · have hf := ift hc48 hf
        exact z_weak [] rfl (z_GR_lacksLetter_j55 X hd  h _ hf hK)
      · have hf := iff' hc48 hf
        refine z_iconst X dX5_lacksLetter_51 kc_1 ?_
        refine z_goto X dX5_lacksLetter_52 rfl ?_
        cases hf
        exact z_zret X hK (Or.inr rfl) dX5_lacksLetter_56
set_option maxHeartbeats 4000000 in
set_option maxRecDepth 100000 in
theorem z_GR_readClosing_j51 {g : GP} {x : CX} {d : Nat} (X : zX g x RX5 cX5_readClosing 1 (d + 1)) (hd : 1 ≤ d) (l0 : Int) (h : Hp) (y : Hp) (hf : GR_readClosing_j51 l0 h = some y) (hK : zE g x none 0 0 157 y none) : ZV g x 1 h 51 [(0, (2, l0))] [] := by
  unfold GR_readClosing_j51 at hf
  refine z_aload_n X dX5_readClosing_51 0 rfl ?_
  refine z_aload_n X dX5_readClosing_52 0 rfl ?_
  obtain ⟨g5, hf⟩ := gif hf
  refine y_get X fl_RX5_27 dX5_readClosing_53 g5 ?_
  obtain ⟨g6, hf⟩ := gif hf
  refine y_get X fl_RX5_123 dX5_readClosing_56 g6 ?_
  refine z_aload_n X dX5_readClosing_59 0 rfl ?_
  refine y_get X fl_RX5_75 dX5_readClosing_60 g5 ?_
  obtain ⟨g7, hf⟩ := gif hf
  refine y_iald X dX5_readClosing_63 g7 ?_
  refine y_put X fl_RX5_75 dX5_readClosing_64 g5 rfl (by decide) ?_
  let h_1 : Hp := hput h l0 5 (h (h (h l0 3) 13) (h l0 5))
  refine z_aload_n X dX5_readClosing_67 0 rfl ?_
  refine z_iconst X dX5_readClosing_68 kc_1 ?_
  obtain ⟨r69, hr69, hf⟩ := obE hf
  refine y_V0 X cv_RX5_65 dX5_readClosing_69 g5 (c_GR_goOn d (Nat.le_trans (by decide) hd) l0 1 h_1 r69 hr69) (as := [(0, 1)]) rfl rfl (Nat.le_of_ble_eq_true rfl) z00 ?_
  cases hf
  exact z_vret X hK dX5_readClosing_72
set_option maxHeartbeats 4000000 in
set_option maxRecDepth 100000 in
theorem c_GR_readClosing {l : Launch} {g : GP} (d : Nat) (hd : 2 ≤ d) (l0 : Int) (h : Hp) (y : Hp) (hf : GR_readClosing l0 h = some y) : zM l yX5_readClosing cX5_readClosing 1 none d 0 0 g 157 h [(2, l0)] 157 y none := by
  obtain ⟨d, rfl⟩ : ∃ k, d = k + 1 := ⟨d - 1, by omega⟩
  replace hd : 1 ≤ d := Nat.le_of_succ_le_succ hd
  refine z_start (by decide) (Nat.le_of_ble_eq_true rfl) (fun x X hK _ _ _ hl => ?_)
  show ZV g x 1 h 0 [(0, (2, l0))] []
  unfold GR_readClosing at hf
  refine z_aload_n X dX5_readClosing_0 0 rfl ?_
  obtain ⟨g1, hf⟩ := gif hf
  refine y_get X fl_RX5_27 dX5_readClosing_1 g1 ?_
  obtain ⟨g2, hf⟩ := gif hf
  refine y_get X fl_RX5_120 dX5_readClosing_4 g2 ?_
  refine z_aload_n X dX5_readClosing_7 0 rfl ?_
  refine y_get X fl_RX5_75 dX5_readClosing_8 g1 ?_
  obtain ⟨g3, hf⟩ := gif hf
  refine y_iald X dX5_readClosing_11 g3 ?_
  refine z_iconst X dX5_readClosing_12 kc_m1 ?_
  refine z_icmp_ne X dX5_readClosing_13 rfl (fun hc13 => ?_) (fun hc13 => ?_)
  · have hf := iff' hc13 hf
    refine z_aload_n X dX5_readClosing_22 0 rfl ?_
    refine y_get X fl_RX5_27 dX5_readClosing_23 g1 ?_
    refine y_get X fl_RX5_123 dX5_readClosing_26 g2 ?_
    refine z_aload_n X dX5_readClosing_29 0 rfl ?_
    refine y_get X fl_RX5_75 dX5_readClosing_30 g1 ?_
    obtain ⟨g4, hf⟩ := gif hf
    refine y_iald X dX5_readClosing_33 g4 ?_
    refine z_iconst X dX5_readClosing_34 kc_m1 ?_
    refine z_icmp_ne X dX5_readClosing_35 rfl (fun hc35 => ?_) (fun hc35 => ?_)
    · have hf := iff' hc35 hf
      exact (z_GR_readClosing_j51 X hd l0 h _ hf hK)
    · have hf := ift hc35 hf
      refine z_aload_n X dX5_readClosing_38 0 rfl ?_
      obtain ⟨r39, hr39, hf⟩ := obE hf
      refine y_V1 X cv_RX5_126 dX5_readClosing_39 g1 (c_GR_lacksLetter d (Nat.le_trans (by decide) hd) l0 h r39 hr39) (as := []) rfl rfl (Nat.le_of_ble_eq_true rfl) z00 ?_
      refine z_if_eq X dX5_readClosing_42 rfl (fun hc42 => ?_) (fun hc42 => ?_)
      · have hf := ift hc42 hf
        exact (z_GR_readClosing_j51 X hd l0 h _ hf hK)
      · have hf := iff' hc42 hf
        refine z_aload_n X dX5_readClosing_45 0 rfl ?_
        refine z_iconst X dX5_readClosing_46 kc_4 ?_
        obtain ⟨r47, hr47, hf⟩ := obE hf
        refine y_V0 X cv_RX5_59 dX5_readClosing_47 g1 (c_GR_refuse d (Nat.zero_le _) l0 4 h r47 hr47) (as := [(0, 4)]) rfl rfl (Nat.le_of_ble_eq_true rfl) z00 ?_
        cases hf
        exact z_vret X hK dX5_readClosing_50
  · have hf := ift hc13 hf
    refine z_aload_n X dX5_readClosing_16 0 rfl ?_
    refine z_iconst X dX5_readClosing_17 kc_1 ?_
    obtain ⟨r18, hr18, hf⟩ := obE hf
    refine y_V0 X cv_RX5_59 dX5_readClosing_18 g1 (c_GR_refuse d (Nat.zero_le _) l0 1 h r18 hr18) (as := [(0, 1)]) rfl rfl (Nat.le_of_ble_eq_true rfl) z00 ?_
    cases hf
    exact z_vret X hK dX5_readClosing_21
set_option maxHeartbeats 4000000 in
set_option maxRecDepth 100000 in
theorem z_GR_readLabelled_j155 {g : GP} {x : CX} {d : Nat} (X : zX g x RX5 cX5_readLabelled 4 (d + 1)) (hd : 1 ≤ d) (l0 : Int) (h : Hp) (y : Hp) (hf : GR_readLabelled_j155 l0 h = some y) (hK : zE g x none 0 0 157 y none) : ZV g x 4 h 155 [(0, (2, l0))] [] := by
  unfold GR_readLabelled_j155 at hf
  refine z_aload_n X dX5_readLabelled_155 0 rfl ?_
  refine z_iconst X dX5_readLabelled_156 kc_1 ?_
  obtain ⟨g8, hf⟩ := gif hf
  obtain ⟨r157, hr157, hf⟩ := obE hf
  refine y_V0 X cv_RX5_65 dX5_readLabelled_157 g8 (c_GR_goOn d (Nat.le_trans (by decide) hd) l0 1 h r157 hr157) (as := [(0, 1)]) rfl rfl (Nat.le_of_ble_eq_true rfl) z00 ?_
  cases hf
  exact z_vret X hK dX5_readLabelled_160
set_option maxHeartbeats 4000000 in
set_option maxRecDepth 100000 in
theorem z_GR_readLabelled_j84 {g : GP} {x : CX} {d : Nat} (X : zX g x RX5 cX5_readLabelled 4 (d + 1)) (hd : 1 ≤ d) (l0 l1 l2 : Int) (h : Hp) (y : Hp) (hf : GR_readLabelled_j84 l0 l1 l2 h = some y) (hK : zE g x none 0 0 157 y none) : ZV g x 4 h 84 [(0, (2, l0)), (1, (0, l1)), (2, (0, l2))] [] := by
  unfold GR_readLabelled_j84 at hf
  refine z_aload_n X dX5_readLabelled_84 0 rfl ?_
  obtain ⟨g5, hf⟩ := gif hf
  refine y_get X fl_RX5_27 dX5_readLabelled_85 g5 ?_
  obtain ⟨g6, hf⟩ := gif hf
  obtain ⟨r88, hr88, hf⟩ := obE hf
  refine y_V1 X cv_RX5_94 dX5_readLabelled_88 g6 (c_Gr_hasRoomForNode d (Nat.zero_le _) (h l0 3) h r88 hr88) (as := []) rfl rfl (Nat.le_of_ble_eq_true rfl) z00 ?_
  refine z_if_ne X dX5_readLabelled_91 rfl (fun hc91 => ?_) (fun hc91 => ?_)
  · have hf := iff' hc91 hf
    refine z_aload_n X dX5_readLabelled_100 0 rfl ?_
    refine z_iconst X dX5_readLabelled_101 kc_1 ?_
    obtain ⟨r102, hr102, hf⟩ := obE hf
    refine y_V0 X cv_RX5_65 dX5_readLabelled_102 g5 (c_GR_goOn d (Nat.le_trans (by decide) hd) l0 1 h r102 hr102) (as := [(0, 1)]) rfl rfl (Nat.le_of_ble_eq_true rfl) z00 ?_
    refine z_iload_n X dX5_readLabelled_105 2 rfl ?_
    refine z_bipush X dX5_readLabelled_106 kb_42 kc_42 ?_
    refine z_icmp_ne X dX5_readLabelled_108 rfl (fun hc108 => ?_) (fun hc108 => ?_)
    · have hf := iff' hc108 hf
      refine z_iload_n X dX5_readLabelled_126 2 rfl ?_
      refine z_bipush X dX5_readLabelled_127 kb_94 kc_94 ?_
      refine z_icmp_ne X dX5_readLabelled_129 rfl (fun hc129 => ?_) (fun hc129 => ?_)
      · have hf := iff' hc129 hf
        refine z_aload_n X dX5_readLabelled_149 0 rfl ?_
        refine z_iconst X dX5_readLabelled_150 kc_1 ?_
        obtain ⟨r151, hr151, hf⟩ := obE hf
        refine y_V0 X cv_RX5_59 dX5_readLabelled_151 g5 (c_GR_refuse d (Nat.zero_le _) l0 1 r102 r151 hr151) (as := [(0, 1)]) rfl rfl (Nat.le_of_ble_eq_true rfl) z00 ?_
        cases hf
        exact z_vret X hK dX5_readLabelled_154
      · have hf := ift hc129 hf
        refine z_aload_n X dX5_readLabelled_132 0 rfl ?_
        refine y_get X fl_RX5_27 dX5_readLabelled_133 g5 ?_
        refine z_iconst X dX5_readLabelled_136 kc_4 ?_
        refine z_iload_n X dX5_readLabelled_137 1 rfl ?_
        refine z_aload_n X dX5_readLabelled_138 0 rfl ?_
        refine y_get X fl_RX5_75 dX5_readLabelled_139 g5 ?_
        obtain ⟨g7, hf⟩ := gif hf
        obtain ⟨r142, hr142, hf⟩ := obE hf
        refine y_V1 X cv_RX5_97 dX5_readLabelled_142 g7 (c_Gr_addNode d (Nat.zero_le _) (r102 l0 3) 4 l1 (r102 l0 5) r102 r142 hr142) (as := [(0, 4), (0, l1), (0, r102 l0 5)]) rfl rfl (Nat.le_of_ble_eq_true rfl) z00 ?_
        refine z_pop X ne0 dX5_readLabelled_145 ?_
        refine z_goto X dX5_readLabelled_146 rfl ?_
        exact z_weak [0] rfl (z_GR_readLabelled_j155 X hd l0 r142.2 _ hf hK)
    · have hf := ift hc108 hf
      refine z_aload_n X dX5_readLabelled_111 0 rfl ?_
      refine y_get X fl_RX5_27 dX5_readLabelled_112 g5 ?_
      refine z_iload_n X dX5_readLabelled_115 1 rfl ?_
      refine z_aload_n X dX5_readLabelled_116 0 rfl ?_
      refine y_get X fl_RX5_75 dX5_readLabelled_117 g5 ?_
      obtain ⟨g9, hf⟩ := gif hf
      obtain ⟨r120, hr120, hf⟩ := obE hf
      refine y_V0 X cv_RX5_149 dX5_readLabelled_120 g9 (c_Gr_addFoot d (Nat.le_trans (by decide) hd) (r102 l0 3) l1 (r102 l0 5) r102 r120 hr120) (as := [(0, l1), (0, r102 l0 5)]) rfl rfl (Nat.le_of_ble_eq_true rfl) z00 ?_
      refine z_goto X dX5_readLabelled_123 rfl ?_
      exact z_weak [0] rfl (z_GR_readLabelled_j155 X hd l0 r120 _ hf hK)
  · have hf := ift hc91 hf
    refine z_aload_n X dX5_readLabelled_94 0 rfl ?_
    refine z_iconst X dX5_readLabelled_95 kc_3 ?_
    obtain ⟨r96, hr96, hf⟩ := obE hf
    refine y_V0 X cv_RX5_59 dX5_readLabelled_96 g5 (c_GR_refuse d (Nat.zero_le _) l0 3 h r96 hr96) (as := [(0, 3)]) rfl rfl (Nat.le_of_ble_eq_true rfl) z00 ?_
    cases hf
    exact z_vret X hK dX5_readLabelled_99
set_option maxHeartbeats 4000000 in
set_option maxRecDepth 100000 in
theorem z_GR_readLabelled_j78 {g : GP} {x : CX} {d : Nat} (X : zX g x RX5 cX5_readLabelled 4 (d + 1)) (hd : 1 ≤ d) (l0 : Int) (h : Hp) (y : Hp) (hf : GR_readLabelled_j78 l0 h = some y) (hK : zE g x none 0 0 157 y none) : ZV g x 4 h 78 [(0, (2, l0))] [] := by
  unfold GR_readLabelled_j78 at hf
  refine z_aload_n X dX5_readLabelled_78 0 rfl ?_
  refine z_iconst X dX5_readLabelled_79 kc_2 ?_
  obtain ⟨g11, hf⟩ := gif hf
  obtain ⟨r80, hr80, hf⟩ := obE hf
  refine y_V0 X cv_RX5_59 dX5_readLabelled_80 g11 (c_GR_refuse d (Nat.zero_le _) l0 2 h r80 hr80) (as := [(0, 2)]) rfl rfl (Nat.le_of_ble_eq_true rfl) z00 ?_
  cases hf
  exact z_vret X hK dX5_readLabelled_83
set_option maxHeartbeats 4000000 in
set_option maxRecDepth 100000 in
theorem c_GR_readLabelled {l : Launch} {g : GP} (d : Nat) (hd : 2 ≤ d) (l0 : Int) (h : Hp) (y : Hp) (hf : GR_readLabelled l0 h = some y) : zM l yX5_readLabelled cX5_readLabelled 4 none d 0 0 g 157 h [(2, l0)] 157 y none := by
  obtain ⟨d, rfl⟩ : ∃ k, d = k + 1 := ⟨d - 1, by omega⟩
  replace hd : 1 ≤ d := Nat.le_of_succ_le_succ hd
  refine z_start (by decide) (Nat.le_of_ble_eq_true rfl) (fun x X hK _ _ _ hl => ?_)
  show ZV g x 4 h 0 [(0, (2, l0))] []
  unfold GR_readLabelled at hf
  refine z_aload_n X dX5_readLabelled_0 0 rfl ?_
  obtain ⟨g1, hf⟩ := gif hf
  obtain ⟨r1, hr1, hf⟩ := obE hf
  refine y_V1 X cv_RX5_68 dX5_readLabelled_1 g1 (c_GR_sign d (Nat.le_trans (by decide) hd) l0 h r1 hr1) (as := []) rfl rfl (Nat.le_of_ble_eq_true rfl) z00 ?_
  refine z_bipush X dX5_readLabelled_4 kb_65 kc_65 ?_
  refine z_isub X dX5_readLabelled_6 ?_
  refine z_istore_n X dX5_readLabelled_7 (by decide) (ls' := [(1, (0, w32 (r1 - 65))), (0, (2, l0))]) rfl ?_
  refine z_aload_n X dX5_readLabelled_8 1 rfl ?_
  refine y_get X fl_RX5_23 dX5_readLabelled_9 g1 ?_
  refine z_aload_n X dX5_readLabelled_12 1 rfl ?_
  refine y_get X fl_RX5_23 dX5_readLabelled_13 g1 ?_
  refine z_aload_n X dX5_readLabelled_16 1 rfl ?_
  refine y_get X fl_RX5_40 dX5_readLabelled_17 g1 ?_
  refine z_iconst X dX5_readLabelled_20 kc_1 ?_
  refine z_iadd X dX5_readLabelled_21 ?_
  obtain ⟨g2, hf⟩ := gif hf
  obtain ⟨r22, hr22, hf⟩ := obE hf
  refine y_V1 X cv_RX5_36 dX5_readLabelled_22 g2 (c_By_afterBlanks d (Nat.zero_le _) (h l0 2) (w32 ((h l0 4) + 1)) h r22 hr22) (as := [(0, w32 ((h l0 4) + 1))]) rfl rfl (Nat.le_of_ble_eq_true rfl) z00 ?_
  obtain ⟨r25, hr25, hf⟩ := obE hf
  refine y_V1 X cv_RX5_52 dX5_readLabelled_25 g2 (c_By_at d (Nat.zero_le _) (h l0 2) r22 h r25 hr25) (as := [(0, r22)]) rfl rfl (Nat.le_of_ble_eq_true rfl) z00 ?_
  refine z_istore_n X dX5_readLabelled_28 (by decide) (ls' := [(2, (0, r25)), (1, (0, w32 (r1 - 65))), (0, (2, l0))]) rfl ?_
  refine z_aload_n X dX5_readLabelled_29 2 rfl ?_
  refine y_get X fl_RX5_27 dX5_readLabelled_30 g1 ?_
  obtain ⟨g3, hf⟩ := gif hf
  refine y_get X fl_RX5_143 dX5_readLabelled_33 g3 ?_
  refine z_aload_n X dX5_readLabelled_36 2 rfl ?_
  refine y_get X fl_RX5_27 dX5_readLabelled_37 g1 ?_
  refine y_get X fl_RX5_62 dX5_readLabelled_40 g3 ?_
  refine z_iconst X dX5_readLabelled_43 kc_1 ?_
  refine z_isub X dX5_readLabelled_44 ?_
  obtain ⟨g4, hf⟩ := gif hf
  refine y_iald X dX5_readLabelled_45 g4 ?_
  refine z_istore_n X dX5_readLabelled_46 (by decide) (ls' := [(3, (0, h (h (h l0 3) 6) (w32 ((h (h l0 3) 0) - 1)))), (2, (0, r25)), (1, (0, w32 (r1 - 65))), (0, (2, l0))]) rfl ?_
  refine z_iload_n X dX5_readLabelled_47 1 rfl ?_
  refine z_bipush X dX5_readLabelled_48 kb_42 kc_42 ?_
  refine z_icmp_ne X dX5_readLabelled_50 rfl (fun hc50 => ?_) (fun hc50 => ?_)
  · have hf := iff' hc50 hf
    exact z_weak [3, 2, 1] rfl (z_GR_readLabelled_j84 X hd l0 (w32 (r1 - 65)) r25 h _ hf hK)
  · have hf := ift hc50 hf
    refine z_aload_n X dX5_readLabelled_53 3 rfl ?_
    refine y_get X fl_RX5_27 dX5_readLabelled_54 g1 ?_
    refine y_get X fl_RX5_132 dX5_readLabelled_57 g3 ?_
    refine z_iload_n X dX5_readLabelled_60 0 rfl ?_
    obtain ⟨g10, hf⟩ := gif hf
    refine y_zald X dX5_readLabelled_61 g10 ?_
    refine z_if_ne X dX5_readLabelled_62 rfl (fun hc62 => ?_) (fun hc62 => ?_)
    · have hf := iff' hc62 hf
      exact z_weak [3] rfl (z_GR_readLabelled_j78 X hd l0 h _ hf hK)
    · have hf := ift hc62 hf
      refine z_aload_n X dX5_readLabelled_65 3 rfl ?_
      refine y_get X fl_RX5_27 dX5_readLabelled_66 g1 ?_
      refine y_get X fl_RX5_146 dX5_readLabelled_69 g3 ?_
      refine z_iload_n X dX5_readLabelled_72 0 rfl ?_
      obtain ⟨g12, hf⟩ := gif hf
      refine y_iald X dX5_readLabelled_73 g12 ?_
      refine z_iload_n X dX5_readLabelled_74 2 rfl ?_
      refine z_icmp_eq X dX5_readLabelled_75 rfl (fun hc75 => ?_) (fun hc75 => ?_)
      · have hf := ift hc75 hf
        exact z_weak [3, 2, 1] rfl (z_GR_readLabelled_j84 X hd l0 (w32 (r1 - 65)) r25 h _ hf hK)
      · have hf := iff' hc75 hf
        exact z_weak [3] rfl (z_GR_readLabelled_j78 X hd l0 h _ hf hK)
set_option maxHeartbeats 4000000 in
set_option maxRecDepth 100000 in
theorem z_GR_readSign_j60 {g : GP} {x : CX} {d : Nat} (X : zX g x RX5 cX5_readSign 1 (d + 1)) (hd : 1 ≤ d) (l0 : Int) (h : Hp) (y : Hp) (hf : GR_readSign_j60 l0 h = some y) (hK : zE g x none 0 0 157 y none) : ZV g x 1 h 60 [(0, (2, l0))] [] := by
  unfold GR_readSign_j60 at hf
  refine z_aload_n X dX5_readSign_60 0 rfl ?_
  refine z_iconst X dX5_readSign_61 kc_1 ?_
  obtain ⟨g3, hf⟩ := gif hf
  obtain ⟨r62, hr62, hf⟩ := obE hf
  refine y_V0 X cv_RX5_65 dX5_readSign_62 g3 (c_GR_goOn d (Nat.le_trans (by decide) hd) l0 1 h r62 hr62) (as := [(0, 1)]) rfl rfl (Nat.le_of_ble_eq_true rfl) z00 ?_
  cases hf
  exact z_vret X hK dX5_readSign_65
set_option maxHeartbeats 4000000 in
set_option maxRecDepth 100000 in
theorem c_GR_readSign {l : Launch} {g : GP} (d : Nat) (hd : 2 ≤ d) (l0 : Int) (h : Hp) (y : Hp) (hf : GR_readSign l0 h = some y) : zM l yX5_readSign cX5_readSign 1 none d 0 0 g 157 h [(2, l0)] 157 y none := by
  obtain ⟨d, rfl⟩ : ∃ k, d = k + 1 := ⟨d - 1, by omega⟩
  replace hd : 1 ≤ d := Nat.le_of_succ_le_succ hd
  refine z_start (by decide) (Nat.le_of_ble_eq_true rfl) (fun x X hK _ _ _ hl => ?_)
  show ZV g x 1 h 0 [(0, (2, l0))] []
  unfold GR_readSign at hf
  refine z_aload_n X dX5_readSign_0 0 rfl ?_
  obtain ⟨g1, hf⟩ := gif hf
  refine y_get X fl_RX5_27 dX5_readSign_1 g1 ?_
  obtain ⟨g2, hf⟩ := gif hf
  obtain ⟨r4, hr4, hf⟩ := obE hf
  refine y_V1 X cv_RX5_94 dX5_readSign_4 g2 (c_Gr_hasRoomForNode d (Nat.zero_le _) (h l0 3) h r4 hr4) (as := []) rfl rfl (Nat.le_of_ble_eq_true rfl) z00 ?_
  refine z_if_ne X dX5_readSign_7 rfl (fun hc7 => ?_) (fun hc7 => ?_)
  · have hf := iff' hc7 hf
    refine z_aload_n X dX5_readSign_16 0 rfl ?_
    obtain ⟨r17, hr17, hf⟩ := obE hf
    refine y_V1 X cv_RX5_68 dX5_readSign_17 g1 (c_GR_sign d (Nat.le_trans (by decide) hd) l0 h r17 hr17) (as := []) rfl rfl (Nat.le_of_ble_eq_true rfl) z00 ?_
    refine z_bipush X dX5_readSign_20 kb_46 kc_46 ?_
    refine z_icmp_ne X dX5_readSign_22 rfl (fun hc22 => ?_) (fun hc22 => ?_)
    · have hf := iff' hc22 hf
      refine z_aload_n X dX5_readSign_42 0 rfl ?_
      refine y_get X fl_RX5_27 dX5_readSign_43 g1 ?_
      refine z_aload_n X dX5_readSign_46 0 rfl ?_
      obtain ⟨r47, hr47, hf⟩ := obE hf
      refine y_V1 X cv_RX5_68 dX5_readSign_47 g1 (c_GR_sign d (Nat.le_trans (by decide) hd) l0 h r47 hr47) (as := []) rfl rfl (Nat.le_of_ble_eq_true rfl) z00 ?_
      refine z_bipush X dX5_readSign_50 kb_97 kc_97 ?_
      refine z_isub X dX5_readSign_52 ?_
      refine z_aload_n X dX5_readSign_53 0 rfl ?_
      refine y_get X fl_RX5_75 dX5_readSign_54 g1 ?_
      obtain ⟨r57, hr57, hf⟩ := obE hf
      refine y_V0 X cv_RX5_139 dX5_readSign_57 g2 (c_Gr_addLetter d (Nat.le_trans (by decide) hd) (h l0 3) (w32 (r47 - 97)) (h l0 5) h r57 hr57) (as := [(0, w32 (r47 - 97)), (0, h l0 5)]) rfl rfl (Nat.le_of_ble_eq_true rfl) z00 ?_
      exact (z_GR_readSign_j60 X hd l0 r57 _ hf hK)
    · have hf := ift hc22 hf
      refine z_aload_n X dX5_readSign_25 0 rfl ?_
      refine y_get X fl_RX5_27 dX5_readSign_26 g1 ?_
      refine z_iconst X dX5_readSign_29 kc_2 ?_
      refine z_iconst X dX5_readSign_30 kc_m1 ?_
      refine z_aload_n X dX5_readSign_31 0 rfl ?_
      refine y_get X fl_RX5_75 dX5_readSign_32 g1 ?_
      obtain ⟨r35, hr35, hf⟩ := obE hf
      refine y_V1 X cv_RX5_97 dX5_readSign_35 g2 (c_Gr_addNode d (Nat.zero_le _) (h l0 3) 2 ((-1)) (h l0 5) h r35 hr35) (as := [(0, 2), (0, (-1)), (0, h l0 5)]) rfl rfl (Nat.le_of_ble_eq_true rfl) z00 ?_
      refine z_pop X ne0 dX5_readSign_38 ?_
      refine z_goto X dX5_readSign_39 rfl ?_
      exact (z_GR_readSign_j60 X hd l0 r35.2 _ hf hK)
  · have hf := ift hc7 hf
    refine z_aload_n X dX5_readSign_10 0 rfl ?_
    refine z_iconst X dX5_readSign_11 kc_3 ?_
    obtain ⟨r12, hr12, hf⟩ := obE hf
    refine y_V0 X cv_RX5_59 dX5_readSign_12 g1 (c_GR_refuse d (Nat.zero_le _) l0 3 h r12 hr12) (as := [(0, 3)]) rfl rfl (Nat.le_of_ble_eq_true rfl) z00 ?_
    cases hf
    exact z_vret X hK dX5_readSign_15
set_option maxHeartbeats 4000000 in
set_option maxRecDepth 100000 in
theorem z_GR_readPart_j92 {g : GP} {x : CX} {d : Nat} (X : zX g x RX5 cX5_readPart 1 (d + 1)) (hd : 2 ≤ d) (l0 : Int) (h : Hp) (y : Hp) (hf : GR_readPart_j92 l0 h = some y) (hK : zE g x none 0 0 157 y none) : ZV g x 1 h 92 [(0, (2, l0))] [] := by
  unfold GR_readPart_j92 at hf
  refine z_aload_n X dX5_readPart_92 0 rfl ?_
  obtain ⟨g4, hf⟩ := gif hf
  obtain ⟨r93, hr93, hf⟩ := obE hf
  refine y_V0 X cv_RX5_117 dX5_readPart_93 g4 (c_GR_readSign d (Nat.le_trans (by decide) hd) l0 h r93 hr93) (as := []) rfl rfl (Nat.le_of_ble_eq_true rfl) z00 ?_
  refine z_goto X dX5_readPart_96 rfl ?_
  cases hf
  exact z_vret X hK dX5_readPart_104
set_option maxHeartbeats 4000000 in
set_option maxRecDepth 100000 in
theorem c_GR_readPart {l : Launch} {g : GP} (d : Nat) (hd : 3 ≤ d) (l0 : Int) (h : Hp) (y : Hp) (hf : GR_readPart l0 h = some y) : zM l yX5_readPart cX5_readPart 1 none d 0 0 g 157 h [(2, l0)] 157 y none := by
  obtain ⟨d, rfl⟩ : ∃ k, d = k + 1 := ⟨d - 1, by omega⟩
  replace hd : 2 ≤ d := Nat.le_of_succ_le_succ hd
  refine z_start (by decide) (Nat.le_of_ble_eq_true rfl) (fun x X hK _ _ _ hl => ?_)
  show ZV g x 1 h 0 [(0, (2, l0))] []
  unfold GR_readPart at hf
  refine z_aload_n X dX5_readPart_0 0 rfl ?_
  obtain ⟨g1, hf⟩ := gif hf
  obtain ⟨r1, hr1, hf⟩ := obE hf
  refine y_V1 X cv_RX5_68 dX5_readPart_1 g1 (c_GR_sign d (Nat.le_trans (by decide) hd) l0 h r1 hr1) (as := []) rfl rfl (Nat.le_of_ble_eq_true rfl) z00 ?_
  refine z_bipush X dX5_readPart_4 kb_41 kc_41 ?_
  refine z_icmp_ne X dX5_readPart_6 rfl (fun hc6 => ?_) (fun hc6 => ?_)
  · have hf := iff' hc6 hf
    refine z_aload_n X dX5_readPart_16 0 rfl ?_
    refine y_get X fl_RX5_27 dX5_readPart_17 g1 ?_
    obtain ⟨g2, hf⟩ := gif hf
    refine y_get X fl_RX5_108 dX5_readPart_20 g2 ?_
    refine z_aload_n X dX5_readPart_23 0 rfl ?_
    refine y_get X fl_RX5_75 dX5_readPart_24 g1 ?_
    obtain ⟨g3, hf⟩ := gif hf
    refine y_iald X dX5_readPart_27 g3 ?_
    refine z_iconst X dX5_readPart_28 kc_m1 ?_
    refine z_icmp_eq X dX5_readPart_29 rfl (fun hc29 => ?_) (fun hc29 => ?_)
    · have hf := ift hc29 hf
      refine z_aload_n X dX5_readPart_40 0 rfl ?_
      obtain ⟨r41, hr41, hf⟩ := obE hf
      refine y_V1 X cv_RX5_68 dX5_readPart_41 g1 (c_GR_sign d (Nat.le_trans (by decide) hd) l0 h r41 hr41) (as := []) rfl rfl (Nat.le_of_ble_eq_true rfl) z00 ?_
      refine z_bipush X dX5_readPart_44 kb_40 kc_40 ?_
      refine z_icmp_ne X dX5_readPart_46 rfl (fun hc46 => ?_) (fun hc46 => ?_)
      · have hf := iff' hc46 hf
        refine z_aload_n X dX5_readPart_56 0 rfl ?_
        obtain ⟨r57, hr57, hf⟩ := obE hf
        refine y_V1 X cv_RX5_68 dX5_readPart_57 g1 (c_GR_sign d (Nat.le_trans (by decide) hd) l0 h r57 hr57) (as := []) rfl rfl (Nat.le_of_ble_eq_true rfl) z00 ?_
        obtain ⟨r60, hr60, hf⟩ := obE hf
        refine y_S1 X cs_RX5_90 dX5_readPart_60 (c_GR_isLabel d (Nat.zero_le _) r57 h r60 hr60) (as := [(0, r57)]) rfl rfl (Nat.le_of_ble_eq_true rfl) z00 ?_
        refine z_if_eq X dX5_readPart_63 rfl (fun hc63 => ?_) (fun hc63 => ?_)
        · have hf := ift hc63 hf
          refine z_aload_n X dX5_readPart_73 0 rfl ?_
          obtain ⟨r74, hr74, hf⟩ := obE hf
          refine y_V1 X cv_RX5_68 dX5_readPart_74 g1 (c_GR_sign d (Nat.le_trans (by decide) hd) l0 h r74 hr74) (as := []) rfl rfl (Nat.le_of_ble_eq_true rfl) z00 ?_
          obtain ⟨r77, hr77, hf⟩ := obE hf
          refine y_SN1 X cs_RX5_114 dX5_readPart_77 (c_X_isLetter d (Nat.zero_le _) r74 h r77 hr77) (as := [(0, r74)]) rfl rfl (Nat.le_of_ble_eq_true rfl) z00 ?_
          refine z_if_ne X dX5_readPart_80 rfl (fun hc80 => ?_) (fun hc80 => ?_)
          · have hf := iff' hc80 hf
            exact (z_GR_readPart_j92 X hd l0 h _ hf hK)
          · have hf := ift hc80 hf
            refine z_aload_n X dX5_readPart_83 0 rfl ?_
            obtain ⟨r84, hr84, hf⟩ := obE hf
            refine y_V1 X cv_RX5_68 dX5_readPart_84 g1 (c_GR_sign d (Nat.le_trans (by decide) hd) l0 h r84 hr84) (as := []) rfl rfl (Nat.le_of_ble_eq_true rfl) z00 ?_
            refine z_bipush X dX5_readPart_87 kb_46 kc_46 ?_
            refine z_icmp_ne X dX5_readPart_89 rfl (fun hc89 => ?_) (fun hc89 => ?_)
            · have hf := iff' hc89 hf
              refine z_aload_n X dX5_readPart_99 0 rfl ?_
              refine z_iconst X dX5_readPart_100 kc_1 ?_
              obtain ⟨r101, hr101, hf⟩ := obE hf
              refine y_V0 X cv_RX5_59 dX5_readPart_101 g1 (c_GR_refuse d (Nat.zero_le _) l0 1 h r101 hr101) (as := [(0, 1)]) rfl rfl (Nat.le_of_ble_eq_true rfl) z00 ?_
              cases hf
              exact z_vret X hK dX5_readPart_104
            · have hf := ift hc89 hf
              exact (z_GR_readPart_j92 X hd l0 h _ hf hK)
        · have hf := iff' hc63 hf
          refine z_aload_n X dX5_readPart_66 0 rfl ?_
          obtain ⟨r67, hr67, hf⟩ := obE hf
          refine y_V0 X cv_RX5_111 dX5_readPart_67 g1 (c_GR_readLabelled d (Nat.le_trans (by decide) hd) l0 h r67 hr67) (as := []) rfl rfl (Nat.le_of_ble_eq_true rfl) z00 ?_
          refine z_goto X dX5_readPart_70 rfl ?_
          cases hf
          exact z_vret X hK dX5_readPart_104
      · have hf := ift hc46 hf
        refine z_aload_n X dX5_readPart_49 0 rfl ?_
        obtain ⟨r50, hr50, hf⟩ := obE hf
        refine y_V0 X cv_RX5_78 dX5_readPart_50 g1 (c_GR_readOpening d (Nat.le_trans (by decide) hd) l0 h r50 hr50) (as := []) rfl rfl (Nat.le_of_ble_eq_true rfl) z00 ?_
        refine z_goto X dX5_readPart_53 rfl ?_
        cases hf
        exact z_vret X hK dX5_readPart_104
    · have hf := iff' hc29 hf
      refine z_aload_n X dX5_readPart_32 0 rfl ?_
      refine z_iconst X dX5_readPart_33 kc_1 ?_
      obtain ⟨r34, hr34, hf⟩ := obE hf
      refine y_V0 X cv_RX5_59 dX5_readPart_34 g1 (c_GR_refuse d (Nat.zero_le _) l0 1 h r34 hr34) (as := [(0, 1)]) rfl rfl (Nat.le_of_ble_eq_true rfl) z00 ?_
      refine z_goto X dX5_readPart_37 rfl ?_
      cases hf
      exact z_vret X hK dX5_readPart_104
  · have hf := ift hc6 hf
    refine z_aload_n X dX5_readPart_9 0 rfl ?_
    obtain ⟨r10, hr10, hf⟩ := obE hf
    refine y_V0 X cv_RX5_105 dX5_readPart_10 g1 (c_GR_readClosing d (Nat.le_trans (by decide) hd) l0 h r10 hr10) (as := []) rfl rfl (Nat.le_of_ble_eq_true rfl) z00 ?_
    refine z_goto X dX5_readPart_13 rfl ?_
    cases hf
    exact z_vret X hK dX5_readPart_104
set_option maxHeartbeats 4000000 in
set_option maxRecDepth 100000 in
theorem z_GR_readLine_L69 {g : GP} {x : CX} {d : Nat} (X : zX g x RX5 cX5_readLine 2 (d + 1)) (hd : 3 ≤ d) (l0 : Int)  (E : Hp → Prop) (hx0 : ∀ e : Hp, E (e) → ZV g x 2 e 101 [(0, (2, l0))] []) (l1 : Int) (h : Hp) (y : (Int × Hp) ⊕ (Hp)) (hf : GR_readLine_L69 l0 l1 h = some y) (hk : z_sum (fun q : Int × Hp => ZV g x 2 q.2 69 [(0, (2, l0)), (1, (0, q.1))] []) E y) : ZV g x 2 h 69 [(0, (2, l0)), (1, (0, l1))] [] := by
  unfold GR_readLine_L69 at hf
  refine z_iload_n X dX5_readLine_69 1 rfl ?_
  refine z_sipush X dX5_readLine_70 ks_400 kc_400 ?_
  refine z_icmp_ge X dX5_readLine_73 rfl (fun hc73 => ?_) (fun hc73 => ?_)
  · have hf := ift hc73 hf
    cases hf
    exact z_weak [0] rfl (hx0 _ hk)
  · have hf := iff' hc73 hf
    refine z_aload_n X dX5_readLine_76 0 rfl ?_
    obtain ⟨g4, hf⟩ := gif hf
    refine y_get X fl_RX5_75 dX5_readLine_77 g4 ?_
    refine z_iconst X dX5_readLine_80 kc_m1 ?_
    refine z_icmp_eq X dX5_readLine_81 rfl (fun hc81 => ?_) (fun hc81 => ?_)
    · have hf := ift hc81 hf
      cases hf
      exact z_weak [0] rfl (hx0 _ hk)
    · have hf := iff' hc81 hf
      refine z_aload_n X dX5_readLine_84 0 rfl ?_
      refine y_get X fl_RX5_9 dX5_readLine_85 g4 ?_
      refine z_if_ne X dX5_readLine_88 rfl (fun hc88 => ?_) (fun hc88 => ?_)
      · have hf := iff' hc88 hf
        cases hf
        exact z_weak [0] rfl (hx0 _ hk)
      · have hf := ift hc88 hf
        refine z_aload_n X dX5_readLine_91 0 rfl ?_
        obtain ⟨r92, hr92, hf⟩ := obE hf
        refine y_V0 X cv_RX5_81 dX5_readLine_92 g4 (c_GR_readPart d (Nat.le_trans (by decide) hd) l0 h r92 hr92) (as := []) rfl rfl (Nat.le_of_ble_eq_true rfl) z00 ?_
        refine z_iinc X dX5_readLine_95 1 rfl (by decide) (ls' := [(1, (0, w32 (l1 + 1))), (0, (2, l0))]) rfl ?_
        refine z_goto X dX5_readLine_98 rfl ?_
        cases hf
        exact z_weak [1, 0] rfl hk
set_option maxHeartbeats 4000000 in
set_option maxRecDepth 100000 in
theorem c_GR_readLine {l : Launch} {g : GP} (d : Nat) (hd : 4 ≤ d) (l0 : Int) (h : Hp) (y : Hp) (hf : GR_readLine l0 h = some y) : zM l yX5_readLine cX5_readLine 2 none d 0 0 g 157 h [(2, l0)] 157 y none := by
  obtain ⟨d, rfl⟩ : ∃ k, d = k + 1 := ⟨d - 1, by omega⟩
  replace hd : 3 ≤ d := Nat.le_of_succ_le_succ hd
  refine z_start (by decide) (Nat.le_of_ble_eq_true rfl) (fun x X hK _ _ _ hl => ?_)
  show ZV g x 2 h 0 [(0, (2, l0))] []
  unfold GR_readLine at hf
  refine z_aload_n X dX5_readLine_0 0 rfl ?_
  obtain ⟨g1, hf⟩ := gif hf
  obtain ⟨r1, hr1, hf⟩ := obE hf
  refine y_V1 X cv_RX5_55 dX5_readLine_1 g1 (c_GR_isWord d (Nat.le_trans (by decide) hd) l0 h r1 hr1) (as := []) rfl rfl (Nat.le_of_ble_eq_true rfl) z00 ?_
  refine z_if_ne X dX5_readLine_4 rfl (fun hc4 => ?_) (fun hc4 => ?_)
  · have hf := iff' hc4 hf
    refine z_aload_n X dX5_readLine_13 0 rfl ?_
    refine y_get X fl_RX5_27 dX5_readLine_14 g1 ?_
    obtain ⟨g2, hf⟩ := gif hf
    refine y_get X fl_RX5_62 dX5_readLine_17 g2 ?_
    refine z_bipush X dX5_readLine_20 kb_8 kc_8 ?_
    refine z_icmp_lt X dX5_readLine_22 rfl (fun hc22 => ?_) (fun hc22 => ?_)
    · have hf := ift hc22 hf
      refine z_aload_n X dX5_readLine_31 0 rfl ?_
      refine z_iconst X dX5_readLine_32 kc_4 ?_
      obtain ⟨r33, hr33, hf⟩ := obE hf
      refine y_V0 X cv_RX5_65 dX5_readLine_33 g1 (c_GR_goOn d (Nat.le_trans (by decide) hd) l0 4 h r33 hr33) (as := [(0, 4)]) rfl rfl (Nat.le_of_ble_eq_true rfl) z00 ?_
      refine z_aload_n X dX5_readLine_36 0 rfl ?_
      obtain ⟨r37, hr37, hf⟩ := obE hf
      refine y_V1 X cv_RX5_68 dX5_readLine_37 g1 (c_GR_sign d (Nat.le_trans (by decide) hd) l0 r33 r37 hr37) (as := []) rfl rfl (Nat.le_of_ble_eq_true rfl) z00 ?_
      refine z_bipush X dX5_readLine_40 kb_40 kc_40 ?_
      refine z_icmp_eq X dX5_readLine_42 rfl (fun hc42 => ?_) (fun hc42 => ?_)
      · have hf := ift hc42 hf
        refine z_aload_n X dX5_readLine_51 0 rfl ?_
        refine y_get X fl_RX5_27 dX5_readLine_52 g1 ?_
        obtain ⟨g3, hf⟩ := gif hf
        obtain ⟨r55, hr55, hf⟩ := obE hf
        refine y_V0 X cv_RX5_72 dX5_readLine_55 g3 (c_Gr_openTree d (Nat.zero_le _) (r33 l0 3) r33 r55 hr55) (as := []) rfl rfl (Nat.le_of_ble_eq_true rfl) z00 ?_
        refine z_aload_n X dX5_readLine_58 0 rfl ?_
        refine z_iconst X dX5_readLine_59 kc_m1 ?_
        refine y_put X fl_RX5_75 dX5_readLine_60 g1 rfl (by decide) ?_
        let h_1 : Hp := hput r55 l0 5 ((-1))
        refine z_aload_n X dX5_readLine_63 0 rfl ?_
        obtain ⟨r64, hr64, hf⟩ := obE hf
        refine y_V0 X cv_RX5_78 dX5_readLine_64 g1 (c_GR_readOpening d (Nat.le_trans (by decide) hd) l0 h_1 r64 hr64) (as := []) rfl rfl (Nat.le_of_ble_eq_true rfl) z00 ?_
        refine z_iconst X dX5_readLine_67 kc_0 ?_
        refine z_istore_n X dX5_readLine_68 (by decide) (ls' := [(1, (0, 0)), (0, (2, l0))]) rfl ?_
        obtain ⟨q69, hq69, hf⟩ := obE hf
        have hx69_0 : ∀ e101 : Hp, (e101 : Hp) = q69 → ZV g x 2 e101 101 [(0, (2, l0))] [] := by
          intro e101 hq
          subst hq
          refine z_aload_n X dX5_readLine_101 0 rfl ?_
          refine y_get X fl_RX5_9 dX5_readLine_102 g1 ?_
          refine z_if_ne X dX5_readLine_105 rfl (fun hc105 => ?_) (fun hc105 => ?_)
          · have hf := iff' hc105 hf
            cases hf
            exact z_vret X hK dX5_readLine_112
          · have hf := ift hc105 hf
            refine z_aload_n X dX5_readLine_108 0 rfl ?_
            obtain ⟨r109, hr109, hf⟩ := obE hf
            refine y_V0 X cv_RX5_84 dX5_readLine_109 g1 (c_GR_readLineEnd d (Nat.le_trans (by decide) hd) l0 e101 r109 hr109) (as := []) rfl rfl (Nat.le_of_ble_eq_true rfl) z00 ?_
            cases hf
            exact z_vret X hK dX5_readLine_112
        exact z_weak [1, 0] rfl (z_loop (Z := (fun q : Int × Hp => ZV g x 2 q.2 69 [(0, (2, l0)), (1, (0, q.1))] [])) (E := fun q => q = q69) (fun q y hb hk => z_GR_readLine_L69 X hd l0 (fun q => q = q69) hx69_0 q.1 q.2 y hb hk) LN (0, r64) q69 hq69 rfl)
      · have hf := iff' hc42 hf
        refine z_aload_n X dX5_readLine_45 0 rfl ?_
        refine z_iconst X dX5_readLine_46 kc_1 ?_
        obtain ⟨r47, hr47, hf⟩ := obE hf
        refine y_V0 X cv_RX5_59 dX5_readLine_47 g1 (c_GR_refuse d (Nat.zero_le _) l0 1 r33 r47 hr47) (as := [(0, 1)]) rfl rfl (Nat.le_of_ble_eq_true rfl) z00 ?_
        cases hf
        exact z_vret X hK dX5_readLine_50
    · have hf := iff' hc22 hf
      refine z_aload_n X dX5_readLine_25 0 rfl ?_
      refine z_iconst X dX5_readLine_26 kc_3 ?_
      obtain ⟨r27, hr27, hf⟩ := obE hf
      refine y_V0 X cv_RX5_59 dX5_readLine_27 g1 (c_GR_refuse d (Nat.zero_le _) l0 3 h r27 hr27) (as := [(0, 3)]) rfl rfl (Nat.le_of_ble_eq_true rfl) z00 ?_
      cases hf
      exact z_vret X hK dX5_readLine_30
  · have hf := ift hc4 hf
    refine z_aload_n X dX5_readLine_7 0 rfl ?_
    refine z_iconst X dX5_readLine_8 kc_1 ?_
    obtain ⟨r9, hr9, hf⟩ := obE hf
    refine y_V0 X cv_RX5_59 dX5_readLine_9 g1 (c_GR_refuse d (Nat.zero_le _) l0 1 h r9 hr9) (as := [(0, 1)]) rfl rfl (Nat.le_of_ble_eq_true rfl) z00 ?_
    cases hf
    exact z_vret X hK dX5_readLine_12
set_option maxHeartbeats 4000000 in
set_option maxRecDepth 100000 in
theorem z_GR_readText_L41 {g : GP} {x : CX} {d : Nat} (X : zX g x RX5 cX5_readText 4 (d + 1)) (hd : 4 ≤ d) (l0 : Int)  (E : Hp → Prop) (hx0 : ∀ e : Hp, E (e) → ZV g x 4 e 78 [(0, (2, l0))] []) (l3 : Int) (h : Hp) (y : (Int × Hp) ⊕ (Hp)) (hf : GR_readText_L41 l0 l3 h = some y) (hk : z_sum (fun q : Int × Hp => ZV g x 4 q.2 41 [(0, (2, l0)), (3, (0, q.1))] []) E y) : ZV g x 4 h 41 [(0, (2, l0)), (3, (0, l3))] [] := by
  unfold GR_readText_L41 at hf
  refine z_iload_n X dX5_readText_41 1 rfl ?_
  refine z_bipush X dX5_readText_42 kb_8 kc_8 ?_
  refine z_icmp_gt X dX5_readText_44 rfl (fun hc44 => ?_) (fun hc44 => ?_)
  · have hf := ift hc44 hf
    cases hf
    exact z_weak [0] rfl (hx0 _ hk)
  · have hf := iff' hc44 hf
    refine z_aload_n X dX5_readText_47 0 rfl ?_
    obtain ⟨g4, hf⟩ := gif hf
    refine y_get X fl_RX5_40 dX5_readText_48 g4 ?_
    refine z_aload_n X dX5_readText_51 0 rfl ?_
    refine y_get X fl_RX5_23 dX5_readText_52 g4 ?_
    obtain ⟨g5, hf⟩ := gif hf
    refine y_get X fl_RX5_43 dX5_readText_55 g5 ?_
    refine z_icmp_ge X dX5_readText_58 rfl (fun hc58 => ?_) (fun hc58 => ?_)
    · have hf := ift hc58 hf
      cases hf
      exact z_weak [0] rfl (hx0 _ hk)
    · have hf := iff' hc58 hf
      refine z_aload_n X dX5_readText_61 0 rfl ?_
      refine y_get X fl_RX5_9 dX5_readText_62 g4 ?_
      refine z_if_ne X dX5_readText_65 rfl (fun hc65 => ?_) (fun hc65 => ?_)
      · have hf := iff' hc65 hf
        cases hf
        exact z_weak [0] rfl (hx0 _ hk)
      · have hf := ift hc65 hf
        refine z_aload_n X dX5_readText_68 0 rfl ?_
        obtain ⟨r69, hr69, hf⟩ := obE hf
        refine y_V0 X cv_RX5_46 dX5_readText_69 g4 (c_GR_readLine d (Nat.le_trans (by decide) hd) l0 h r69 hr69) (as := []) rfl rfl (Nat.le_of_ble_eq_true rfl) z00 ?_
        refine z_iinc X dX5_readText_72 1 rfl (by decide) (ls' := [(3, (0, w32 (l3 + 1))), (0, (2, l0))]) rfl ?_
        refine z_goto X dX5_readText_75 rfl ?_
        cases hf
        exact z_weak [1, 0] rfl hk
