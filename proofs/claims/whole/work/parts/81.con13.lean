set_option maxHeartbeats 4000000 in
set_option maxRecDepth 100000 in
theorem z_M_advanceLine_j96 {g : GP} {x : CX} {d : Nat} (X : zX g x RX12 cX12_advanceLine 1 (d + 1)) (hd : 1 ≤ d) (s0 s1 : Int) (h : Hp) (y : Hp) (hf : M_advanceLine_j96 s0 s1 h = some y) (hK : zE g x none 0 0 157 y none) : ZV g x 1 h 96 [] [(0, s0), (2, s1)] := by
  unfold M_advanceLine_j96 at hf
  obtain ⟨g3, hf⟩ := gif hf
  refine y_put X fl_RX12_61 dX12_advanceLine_96 g3 rfl (by decide) ?_
  let h_1 : Hp := hput h s1 25 s0
  cases hf
  exact z_vret X hK dX12_advanceLine_99
set_option maxHeartbeats 4000000 in
set_option maxRecDepth 100000 in
theorem z_M_advanceLine_j78 {g : GP} {x : CX} {d : Nat} (X : zX g x RX12 cX12_advanceLine 1 (d + 1)) (hd : 1 ≤ d) (l0 : Int) (h : Hp) (y : Hp) (hf : M_advanceLine_j78 l0 h = some y) (hK : zE g x none 0 0 157 y none) : ZV g x 1 h 78 [(0, (2, l0))] [] := by
  unfold M_advanceLine_j78 at hf
  refine z_aload_n X dX12_advanceLine_78 0 rfl ?_
  refine z_aload_n X dX12_advanceLine_79 0 rfl ?_
  refine z_aload_n X dX12_advanceLine_80 0 rfl ?_
  obtain ⟨g2, hf⟩ := gif hf
  refine y_get X fl_RX12_45 dX12_advanceLine_81 g2 ?_
  obtain ⟨r84, hr84, hf⟩ := obE hf
  refine y_V1 X cv_RX12_48 dX12_advanceLine_84 g2 (c_M_see d (Nat.zero_le _) l0 (h l0 23) h r84 hr84) (as := [(0, h l0 23)]) rfl rfl (Nat.le_of_ble_eq_true rfl) z00 ?_
  refine z_iconst X dX12_advanceLine_87 kc_m1 ?_
  refine z_icmp_ne X dX12_advanceLine_88 rfl (fun hc88 => ?_) (fun hc88 => ?_)
  · rw [if_neg hc88] at hf
    refine z_iconst X dX12_advanceLine_95 kc_5 ?_
    exact z_weak [] rfl (z_M_advanceLine_j96 X hd 5 l0 h _ hf hK)
  · rw [if_pos hc88] at hf
    refine z_iconst X dX12_advanceLine_91 kc_0 ?_
    refine z_goto X dX12_advanceLine_92 rfl ?_
    exact z_weak [] rfl (z_M_advanceLine_j96 X hd 0 l0 h _ hf hK)
set_option maxHeartbeats 4000000 in
set_option maxRecDepth 100000 in
theorem c_M_advanceLine {l : Launch} {g : GP} (d : Nat) (hd : 2 ≤ d) (l0 : Int) (h : Hp) (y : Hp) (hf : M_advanceLine l0 h = some y) : zM l yX12_advanceLine cX12_advanceLine 1 none d 0 0 g 157 h [(2, l0)] 157 y none := by
  obtain ⟨d, rfl⟩ : ∃ k, d = k + 1 := ⟨d - 1, by omega⟩
  replace hd : 1 ≤ d := Nat.le_of_succ_le_succ hd
  refine z_start (by decide) (Nat.le_of_ble_eq_true rfl) (fun x X hK _ _ _ hl => ?_)
  show ZV g x 1 h 0 [(0, (2, l0))] []
  unfold M_advanceLine at hf
  refine z_aload_n X dX12_advanceLine_0 0 rfl ?_
  obtain ⟨g1, hf⟩ := gif hf
  obtain ⟨r1, hr1, hf⟩ := obE hf
  refine y_V0 X cv_RX12_54 dX12_advanceLine_1 g1 (c_M_skips d (Nat.le_trans (by decide) hd) l0 h r1 hr1) (as := []) rfl rfl (Nat.le_of_ble_eq_true rfl) z00 ?_
  refine z_aload_n X dX12_advanceLine_4 0 rfl ?_
  refine z_aload_n X dX12_advanceLine_5 0 rfl ?_
  refine y_get X fl_RX12_45 dX12_advanceLine_6 g1 ?_
  obtain ⟨r9, hr9, hf⟩ := obE hf
  refine y_V1 X cv_RX12_48 dX12_advanceLine_9 g1 (c_M_see d (Nat.zero_le _) l0 (r1 l0 23) r1 r9 hr9) (as := [(0, r1 l0 23)]) rfl rfl (Nat.le_of_ble_eq_true rfl) z00 ?_
  refine z_bipush X dX12_advanceLine_12 kb_116 kc_116 ?_
  refine z_icmp_ne X dX12_advanceLine_14 rfl (fun hc14 => ?_) (fun hc14 => ?_)
  · have hf := iff' hc14 hf
    exact (z_M_advanceLine_j78 X hd l0 r1 _ hf hK)
  · have hf := ift hc14 hf
    refine z_aload_n X dX12_advanceLine_17 0 rfl ?_
    refine z_aload_n X dX12_advanceLine_18 0 rfl ?_
    refine y_get X fl_RX12_45 dX12_advanceLine_19 g1 ?_
    refine z_iconst X dX12_advanceLine_22 kc_1 ?_
    refine z_iadd X dX12_advanceLine_23 ?_
    obtain ⟨r24, hr24, hf⟩ := obE hf
    refine y_V1 X cv_RX12_48 dX12_advanceLine_24 g1 (c_M_see d (Nat.zero_le _) l0 (w32 ((r1 l0 23) + 1)) r1 r24 hr24) (as := [(0, w32 ((r1 l0 23) + 1))]) rfl rfl (Nat.le_of_ble_eq_true rfl) z00 ?_
    refine z_bipush X dX12_advanceLine_27 kb_114 kc_114 ?_
    refine z_icmp_ne X dX12_advanceLine_29 rfl (fun hc29 => ?_) (fun hc29 => ?_)
    · have hf := iff' hc29 hf
      exact (z_M_advanceLine_j78 X hd l0 r1 _ hf hK)
    · have hf := ift hc29 hf
      refine z_aload_n X dX12_advanceLine_32 0 rfl ?_
      refine z_aload_n X dX12_advanceLine_33 0 rfl ?_
      refine y_get X fl_RX12_45 dX12_advanceLine_34 g1 ?_
      refine z_iconst X dX12_advanceLine_37 kc_2 ?_
      refine z_iadd X dX12_advanceLine_38 ?_
      obtain ⟨r39, hr39, hf⟩ := obE hf
      refine y_V1 X cv_RX12_48 dX12_advanceLine_39 g1 (c_M_see d (Nat.zero_le _) l0 (w32 ((r1 l0 23) + 2)) r1 r39 hr39) (as := [(0, w32 ((r1 l0 23) + 2))]) rfl rfl (Nat.le_of_ble_eq_true rfl) z00 ?_
      refine z_bipush X dX12_advanceLine_42 kb_101 kc_101 ?_
      refine z_icmp_ne X dX12_advanceLine_44 rfl (fun hc44 => ?_) (fun hc44 => ?_)
      · have hf := iff' hc44 hf
        exact (z_M_advanceLine_j78 X hd l0 r1 _ hf hK)
      · have hf := ift hc44 hf
        refine z_aload_n X dX12_advanceLine_47 0 rfl ?_
        refine z_aload_n X dX12_advanceLine_48 0 rfl ?_
        refine y_get X fl_RX12_45 dX12_advanceLine_49 g1 ?_
        refine z_iconst X dX12_advanceLine_52 kc_3 ?_
        refine z_iadd X dX12_advanceLine_53 ?_
        obtain ⟨r54, hr54, hf⟩ := obE hf
        refine y_V1 X cv_RX12_48 dX12_advanceLine_54 g1 (c_M_see d (Nat.zero_le _) l0 (w32 ((r1 l0 23) + 3)) r1 r54 hr54) (as := [(0, w32 ((r1 l0 23) + 3))]) rfl rfl (Nat.le_of_ble_eq_true rfl) z00 ?_
        refine z_bipush X dX12_advanceLine_57 kb_101 kc_101 ?_
        refine z_icmp_ne X dX12_advanceLine_59 rfl (fun hc59 => ?_) (fun hc59 => ?_)
        · have hf := iff' hc59 hf
          exact (z_M_advanceLine_j78 X hd l0 r1 _ hf hK)
        · have hf := ift hc59 hf
          refine z_aload_n X dX12_advanceLine_62 0 rfl ?_
          refine z_iconst X dX12_advanceLine_63 kc_1 ?_
          refine y_put X fl_RX12_61 dX12_advanceLine_64 g1 rfl (by decide) ?_
          let h_2 : Hp := hput r1 l0 25 1
          refine z_aload_n X dX12_advanceLine_67 0 rfl ?_
          refine z_dup X ne2 dX12_advanceLine_68 ?_
          refine y_get X fl_RX12_45 dX12_advanceLine_69 g1 ?_
          refine z_iconst X dX12_advanceLine_72 kc_4 ?_
          refine z_iadd X dX12_advanceLine_73 ?_
          refine y_put X fl_RX12_45 dX12_advanceLine_74 g1 rfl (by decide) ?_
          let h_3 : Hp := hput h_2 l0 23 (w32 ((h_2 l0 23) + 4))
          cases hf
          exact z_vret X hK dX12_advanceLine_77
set_option maxHeartbeats 4000000 in
set_option maxRecDepth 100000 in
theorem c_M_good {l : Launch} {g : GP} (d : Nat) (hd : 0 ≤ d) (l0 : Int) (h : Hp) (y : Int) (hf : M_good l0 h = some y) : zM l yX12_good cX12_good 1 (some .boolean) d 0 0 g 157 h [(2, l0)] 157 h (some (0, y)) := by
  refine z_start (by decide) (Nat.le_of_ble_eq_true rfl) (fun x X hK _ _ _ hl => ?_)
  show ZV g x 1 h 0 [(0, (2, l0))] []
  unfold M_good at hf
  refine z_aload_n X dX12_good_0 0 rfl ?_
  obtain ⟨g1, hf⟩ := gif hf
  refine y_get X fl_RX12_72 dX12_good_1 g1 ?_
  refine z_if_ne X dX12_good_4 rfl (fun hc4 => ?_) (fun hc4 => ?_)
  · rw [if_neg hc4] at hf
    refine z_iconst X dX12_good_11 kc_0 ?_
    cases hf
    exact z_zret X hK (Or.inl rfl) dX12_good_12
  · rw [if_pos hc4] at hf
    refine z_iconst X dX12_good_7 kc_1 ?_
    refine z_goto X dX12_good_8 rfl ?_
    cases hf
    exact z_zret X hK (Or.inr rfl) dX12_good_12
set_option maxHeartbeats 4000000 in
set_option maxRecDepth 100000 in
theorem c_M_errsAt {l : Launch} {g : GP} (d : Nat) (hd : 1 ≤ d) (l0 l1 l2 : Int) (h : Hp) (y : Hp) (hf : M_errsAt l0 l1 l2 h = some y) : zM l yX12_errsAt cX12_errsAt 3 none d 0 0 g 157 h [(2, l0), (0, l1), (0, l2)] 157 y none := by
  obtain ⟨d, rfl⟩ : ∃ k, d = k + 1 := ⟨d - 1, by omega⟩
  replace hd : 0 ≤ d := Nat.le_of_succ_le_succ hd
  refine z_start (by decide) (Nat.le_of_ble_eq_true rfl) (fun x X hK _ _ _ hl => ?_)
  show ZV g x 3 h 0 [(0, (2, l0)), (1, (0, l1)), (2, (0, l2))] []
  unfold M_errsAt at hf
  refine z_aload_n X dX12_errsAt_0 0 rfl ?_
  obtain ⟨g1, hf⟩ := gif hf
  obtain ⟨r1, hr1, hf⟩ := obE hf
  refine y_V1 X cv_RX12_75 dX12_errsAt_1 g1 (c_M_good d (Nat.zero_le _) l0 h r1 hr1) (as := []) rfl rfl (Nat.le_of_ble_eq_true rfl) z00 ?_
  refine z_if_ne X dX12_errsAt_4 rfl (fun hc4 => ?_) (fun hc4 => ?_)
  · have hf := iff' hc4 hf
    refine z_aload_n X dX12_errsAt_8 0 rfl ?_
    refine z_iload_n X dX12_errsAt_9 1 rfl ?_
    refine y_put X fl_RX12_72 dX12_errsAt_10 g1 rfl (by decide) ?_
    let h_1 : Hp := hput h l0 27 l1
    refine z_aload_n X dX12_errsAt_13 0 rfl ?_
    refine z_iload_n X dX12_errsAt_14 2 rfl ?_
    refine y_put X fl_RX12_79 dX12_errsAt_15 g1 rfl (by decide) ?_
    let h_2 : Hp := hput h_1 l0 28 l2
    cases hf
    exact z_vret X hK dX12_errsAt_18
  · have hf := ift hc4 hf
    cases hf
    exact z_vret X hK dX12_errsAt_7
set_option maxHeartbeats 4000000 in
set_option maxRecDepth 100000 in
theorem z_M_isSign_j27 {g : GP} {x : CX} {d : Nat} (X : zX g x RX12 cX12_isSign 2 (d + 1)) (hd : 0 ≤ d) (h : Hp) (y : Int) (hf : M_isSign_j27 h = some y) (hK : zE g x (some .boolean) 0 0 157 h (some (0, y))) : ZV g x 2 h 27 [] [] := by
  unfold M_isSign_j27 at hf
  refine z_iconst X dX12_isSign_27 kc_0 ?_
  cases hf
  exact z_zret X hK (Or.inl rfl) dX12_isSign_28
set_option maxHeartbeats 4000000 in
set_option maxRecDepth 100000 in
theorem c_M_isSign {l : Launch} {g : GP} (d : Nat) (hd : 1 ≤ d) (l0 l1 : Int) (h : Hp) (y : Int) (hf : M_isSign l0 l1 h = some y) : zM l yX12_isSign cX12_isSign 2 (some .boolean) d 0 0 g 157 h [(2, l0), (0, l1)] 157 h (some (0, y)) := by
  obtain ⟨d, rfl⟩ : ∃ k, d = k + 1 := ⟨d - 1, by omega⟩
  replace hd : 0 ≤ d := Nat.le_of_succ_le_succ hd
  refine z_start (by decide) (Nat.le_of_ble_eq_true rfl) (fun x X hK _ _ _ hl => ?_)
  show ZV g x 2 h 0 [(0, (2, l0)), (1, (0, l1))] []
  unfold M_isSign at hf
  refine z_aload_n X dX12_isSign_0 0 rfl ?_
  obtain ⟨g1, hf⟩ := gif hf
  obtain ⟨r1, hr1, hf⟩ := obE hf
  refine y_V1 X cv_RX12_75 dX12_isSign_1 g1 (c_M_good d (Nat.zero_le _) l0 h r1 hr1) (as := []) rfl rfl (Nat.le_of_ble_eq_true rfl) z00 ?_
  refine z_if_eq X dX12_isSign_4 rfl (fun hc4 => ?_) (fun hc4 => ?_)
  · have hf := ift hc4 hf
    exact z_weak [] rfl (z_M_isSign_j27 X hd  h _ hf hK)
  · have hf := iff' hc4 hf
    refine z_aload_n X dX12_isSign_7 0 rfl ?_
    refine y_get X fl_RX12_61 dX12_isSign_8 g1 ?_
    refine z_iconst X dX12_isSign_11 kc_4 ?_
    refine z_icmp_ne X dX12_isSign_12 rfl (fun hc12 => ?_) (fun hc12 => ?_)
    · have hf := iff' hc12 hf
      exact z_weak [] rfl (z_M_isSign_j27 X hd  h _ hf hK)
    · have hf := ift hc12 hf
      refine z_aload_n X dX12_isSign_15 0 rfl ?_
      refine y_get X fl_RX12_58 dX12_isSign_16 g1 ?_
      refine z_iload_n X dX12_isSign_19 1 rfl ?_
      refine z_icmp_ne X dX12_isSign_20 rfl (fun hc20 => ?_) (fun hc20 => ?_)
      · have hf := iff' hc20 hf
        exact z_weak [] rfl (z_M_isSign_j27 X hd  h _ hf hK)
      · have hf := ift hc20 hf
        refine z_iconst X dX12_isSign_23 kc_1 ?_
        refine z_goto X dX12_isSign_24 rfl ?_
        cases hf
        exact z_zret X hK (Or.inr rfl) dX12_isSign_28
set_option maxHeartbeats 4000000 in
set_option maxRecDepth 100000 in
theorem z_M_takesSign_j17 {g : GP} {x : CX} {d : Nat} (X : zX g x RX12 cX12_takesSign 2 (d + 1)) (hd : 2 ≤ d) (l0 : Int) (h : Hp) (y : Hp) (hf : M_takesSign_j17 l0 h = some y) (hK : zE g x none 0 0 157 y none) : ZV g x 2 h 17 [(0, (2, l0))] [] := by
  unfold M_takesSign_j17 at hf
  refine z_aload_n X dX12_takesSign_17 0 rfl ?_
  obtain ⟨g2, hf⟩ := gif hf
  obtain ⟨r18, hr18, hf⟩ := obE hf
  refine y_V1 X cv_RX12_75 dX12_takesSign_18 g2 (c_M_good d (Nat.zero_le _) l0 h r18 hr18) (as := []) rfl rfl (Nat.le_of_ble_eq_true rfl) z00 ?_
  refine z_if_eq X dX12_takesSign_21 rfl (fun hc21 => ?_) (fun hc21 => ?_)
  · have hf := ift hc21 hf
    cases hf
    exact z_vret X hK dX12_takesSign_28
  · have hf := iff' hc21 hf
    refine z_aload_n X dX12_takesSign_24 0 rfl ?_
    obtain ⟨r25, hr25, hf⟩ := obE hf
    refine y_V0 X cv_RX12_89 dX12_takesSign_25 g2 (c_M_advance d (Nat.le_trans (by decide) hd) l0 h r25 hr25) (as := []) rfl rfl (Nat.le_of_ble_eq_true rfl) z00 ?_
    cases hf
    exact z_vret X hK dX12_takesSign_28
set_option maxHeartbeats 4000000 in
set_option maxRecDepth 100000 in
theorem c_M_takesSign {l : Launch} {g : GP} (d : Nat) (hd : 3 ≤ d) (l0 l1 : Int) (h : Hp) (y : Hp) (hf : M_takesSign l0 l1 h = some y) : zM l yX12_takesSign cX12_takesSign 2 none d 0 0 g 157 h [(2, l0), (0, l1)] 157 y none := by
  obtain ⟨d, rfl⟩ : ∃ k, d = k + 1 := ⟨d - 1, by omega⟩
  replace hd : 2 ≤ d := Nat.le_of_succ_le_succ hd
  refine z_start (by decide) (Nat.le_of_ble_eq_true rfl) (fun x X hK _ _ _ hl => ?_)
  show ZV g x 2 h 0 [(0, (2, l0)), (1, (0, l1))] []
  unfold M_takesSign at hf
  refine z_aload_n X dX12_takesSign_0 0 rfl ?_
  refine z_iload_n X dX12_takesSign_1 1 rfl ?_
  obtain ⟨g1, hf⟩ := gif hf
  obtain ⟨r2, hr2, hf⟩ := obE hf
  refine y_V1 X cv_RX12_82 dX12_takesSign_2 g1 (c_M_isSign d (Nat.le_trans (by decide) hd) l0 l1 h r2 hr2) (as := [(0, l1)]) rfl rfl (Nat.le_of_ble_eq_true rfl) z00 ?_
  refine z_if_ne X dX12_takesSign_5 rfl (fun hc5 => ?_) (fun hc5 => ?_)
  · have hf := iff' hc5 hf
    exact z_weak [0] rfl (z_M_takesSign_j17 X hd l0 h _ hf hK)
  · have hf := ift hc5 hf
    refine z_aload_n X dX12_takesSign_8 0 rfl ?_
    refine z_iconst X dX12_takesSign_9 kc_1 ?_
    refine z_aload_n X dX12_takesSign_10 0 rfl ?_
    refine y_get X fl_RX12_51 dX12_takesSign_11 g1 ?_
    obtain ⟨r14, hr14, hf⟩ := obE hf
    refine y_V0 X cv_RX12_85 dX12_takesSign_14 g1 (c_M_errsAt d (Nat.le_trans (by decide) hd) l0 1 (h l0 24) h r14 hr14) (as := [(0, 1), (0, h l0 24)]) rfl rfl (Nat.le_of_ble_eq_true rfl) z00 ?_
    exact z_weak [0] rfl (z_M_takesSign_j17 X hd l0 r14 _ hf hK)
set_option maxHeartbeats 4000000 in
set_option maxRecDepth 100000 in
theorem z_M_opens_j30 {g : GP} {x : CX} {d : Nat} (X : zX g x RX12 cX12_opens 6 (d + 1)) (hd : 1 ≤ d) (l0 l1 l2 l3 : Int) (h : Hp) (y : Int × Hp) (hf : M_opens_j30 l0 l1 l2 l3 h = some y) (hK : zE g x (some .int) 0 0 157 y.2 (some (0, y.1))) : ZV g x 6 h 30 [(0, (2, l0)), (1, (0, l1)), (2, (0, l2)), (3, (0, l3))] [] := by
  unfold M_opens_j30 at hf
  refine z_aload_n X dX12_opens_30 0 rfl ?_
  obtain ⟨g3, hf⟩ := gif hf
  obtain ⟨r31, hr31, hf⟩ := obE hf
  refine y_V1 X cv_RX12_75 dX12_opens_31 g3 (c_M_good d (Nat.zero_le _) l0 h r31 hr31) (as := []) rfl rfl (Nat.le_of_ble_eq_true rfl) z00 ?_
  refine z_if_ne X dX12_opens_34 rfl (fun hc34 => ?_) (fun hc34 => ?_)
  · have hf := iff' hc34 hf
    refine z_bipush X dX12_opens_40 kb_40 kc_40 ?_
    refine z_aload_n X dX12_opens_42 0 rfl ?_
    refine y_get X fl_RX12_92 dX12_opens_43 g3 ?_
    refine z_iadd X dX12_opens_46 ?_
    refine z_istore X dX12_opens_47 (by decide) (ls' := [(5, (0, w32 (40 + (h l0 12)))), (0, (2, l0)), (1, (0, l1)), (2, (0, l2)), (3, (0, l3))]) rfl ?_
    refine z_aload_n X dX12_opens_49 1 rfl ?_
    refine y_get X fl_RX12_98 dX12_opens_50 g3 ?_
    refine z_iload X dX12_opens_53 0 rfl ?_
    refine z_iload_n X dX12_opens_55 2 rfl ?_
    obtain ⟨g4, hf⟩ := gif hf
    refine y_iast X dX12_opens_56 g4 ?_
    let h_1 : Hp := hput h (h l0 5) (w32 (40 + (h l0 12))) l1
    refine z_aload_n X dX12_opens_57 1 rfl ?_
    refine y_get X fl_RX12_101 dX12_opens_58 g3 ?_
    refine z_iload X dX12_opens_61 0 rfl ?_
    refine z_iload_n X dX12_opens_63 3 rfl ?_
    obtain ⟨g5, hf⟩ := gif hf
    refine y_iast X dX12_opens_64 g5 ?_
    let h_2 : Hp := hput h_1 (h_1 l0 6) (w32 (40 + (h l0 12))) l2
    refine z_aload_n X dX12_opens_65 1 rfl ?_
    refine y_get X fl_RX12_104 dX12_opens_66 g3 ?_
    refine z_iload X dX12_opens_69 0 rfl ?_
    refine z_iconst X dX12_opens_71 kc_0 ?_
    obtain ⟨g6, hf⟩ := gif hf
    refine y_iast X dX12_opens_72 g6 ?_
    let h_3 : Hp := hput h_2 (h_2 l0 7) (w32 (40 + (h l0 12))) 0
    refine z_aload_n X dX12_opens_73 1 rfl ?_
    refine y_get X fl_RX12_107 dX12_opens_74 g3 ?_
    refine z_iload X dX12_opens_77 0 rfl ?_
    refine z_iconst X dX12_opens_79 kc_m1 ?_
    obtain ⟨g7, hf⟩ := gif hf
    refine y_iast X dX12_opens_80 g7 ?_
    let h_4 : Hp := hput h_3 (h_3 l0 8) (w32 (40 + (h l0 12))) ((-1))
    refine z_aload_n X dX12_opens_81 1 rfl ?_
    refine y_get X fl_RX12_110 dX12_opens_82 g3 ?_
    refine z_iload X dX12_opens_85 0 rfl ?_
    refine z_iconst X dX12_opens_87 kc_m1 ?_
    obtain ⟨g8, hf⟩ := gif hf
    refine y_iast X dX12_opens_88 g8 ?_
    let h_5 : Hp := hput h_4 (h_4 l0 9) (w32 (40 + (h l0 12))) ((-1))
    refine z_aload_n X dX12_opens_89 1 rfl ?_
    refine y_get X fl_RX12_113 dX12_opens_90 g3 ?_
    refine z_iload X dX12_opens_93 0 rfl ?_
    refine z_iload_n X dX12_opens_95 4 rfl ?_
    obtain ⟨g9, hf⟩ := gif hf
    refine y_iast X dX12_opens_96 g9 ?_
    let h_6 : Hp := hput h_5 (h_5 l0 10) (w32 (40 + (h l0 12))) l3
    refine z_aload_n X dX12_opens_97 1 rfl ?_
    refine z_dup X ne2 dX12_opens_98 ?_
    refine y_get X fl_RX12_92 dX12_opens_99 g3 ?_
    refine z_iconst X dX12_opens_102 kc_1 ?_
    refine z_iadd X dX12_opens_103 ?_
    refine y_put X fl_RX12_92 dX12_opens_104 g3 rfl (by decide) ?_
    let h_7 : Hp := hput h_6 l0 12 (w32 ((h_6 l0 12) + 1))
    refine z_iload X dX12_opens_107 0 rfl ?_
    cases hf
    exact z_iret X hK dX12_opens_109
  · have hf := ift hc34 hf
    refine z_bipush X dX12_opens_37 kb_40 kc_40 ?_
    cases hf
    exact z_iret X hK dX12_opens_39
set_option maxHeartbeats 4000000 in
set_option maxRecDepth 100000 in
theorem z_M_opens_j23 {g : GP} {x : CX} {d : Nat} (X : zX g x RX12 cX12_opens 6 (d + 1)) (hd : 1 ≤ d) (l0 l1 l2 l3 l4 : Int) (h : Hp) (y : Int × Hp) (hf : M_opens_j23 l0 l1 l2 l3 l4 h = some y) (hK : zE g x (some .int) 0 0 157 y.2 (some (0, y.1))) : ZV g x 6 h 23 [(0, (2, l0)), (1, (0, l1)), (2, (0, l2)), (3, (0, l3)), (4, (0, l4))] [] := by
  unfold M_opens_j23 at hf
  refine z_aload_n X dX12_opens_23 0 rfl ?_
  refine z_iconst X dX12_opens_24 kc_3 ?_
  refine z_iload X dX12_opens_25 4 rfl ?_
  obtain ⟨g2, hf⟩ := gif hf
  obtain ⟨r27, hr27, hf⟩ := obE hf
  refine y_V0 X cv_RX12_85 dX12_opens_27 g2 (c_M_errsAt d (Nat.le_trans (by decide) hd) l0 3 l4 h r27 hr27) (as := [(0, 3), (0, l4)]) rfl rfl (Nat.le_of_ble_eq_true rfl) z00 ?_
  exact z_weak [0, 1, 2, 3] rfl (z_M_opens_j30 X hd l0 l1 l2 l3 r27 _ hf hK)
set_option maxHeartbeats 4000000 in
set_option maxRecDepth 100000 in
theorem c_M_opens {l : Launch} {g : GP} (d : Nat) (hd : 2 ≤ d) (l0 l1 l2 l3 l4 : Int) (h : Hp) (y : Int × Hp) (hf : M_opens l0 l1 l2 l3 l4 h = some y) : zM l yX12_opens cX12_opens 6 (some .int) d 0 0 g 157 h [(2, l0), (0, l1), (0, l2), (0, l3), (0, l4)] 157 y.2 (some (0, y.1)) := by
  obtain ⟨d, rfl⟩ : ∃ k, d = k + 1 := ⟨d - 1, by omega⟩
  replace hd : 1 ≤ d := Nat.le_of_succ_le_succ hd
  refine z_start (by decide) (Nat.le_of_ble_eq_true rfl) (fun x X hK _ _ _ hl => ?_)
  show ZV g x 6 h 0 [(0, (2, l0)), (1, (0, l1)), (2, (0, l2)), (3, (0, l3)), (4, (0, l4))] []
  unfold M_opens at hf
  refine z_aload_n X dX12_opens_0 0 rfl ?_
  obtain ⟨g1, hf⟩ := gif hf
  refine y_get X fl_RX12_92 dX12_opens_1 g1 ?_
  refine z_bipush X dX12_opens_4 kb_40 kc_40 ?_
  refine z_icmp_eq X dX12_opens_6 rfl (fun hc6 => ?_) (fun hc6 => ?_)
  · have hf := ift hc6 hf
    exact (z_M_opens_j23 X hd l0 l1 l2 l3 l4 h _ hf hK)
  · have hf := iff' hc6 hf
    refine z_aload_n X dX12_opens_9 0 rfl ?_
    refine y_get X fl_RX12_92 dX12_opens_10 g1 ?_
    refine z_aload_n X dX12_opens_13 0 rfl ?_
    refine y_get X fl_RX12_95 dX12_opens_14 g1 ?_
    refine z_isub X dX12_opens_17 ?_
    refine z_bipush X dX12_opens_18 kb_12 kc_12 ?_
    refine z_icmp_ne X dX12_opens_20 rfl (fun hc20 => ?_) (fun hc20 => ?_)
    · have hf := iff' hc20 hf
      exact z_weak [0, 1, 2, 3] rfl (z_M_opens_j30 X hd l0 l1 l2 l3 h _ hf hK)
    · have hf := ift hc20 hf
      exact (z_M_opens_j23 X hd l0 l1 l2 l3 l4 h _ hf hK)
set_option maxHeartbeats 4000000 in
set_option maxRecDepth 100000 in
theorem z_M_readMarked_j122 {g : GP} {x : CX} {d : Nat} (X : zX g x RX12 cX12_readMarked 6 (d + 1)) (hd : 2 ≤ d) (l0 l5 : Int) (h : Hp) (y : Int × Hp) (hf : M_readMarked_j122 l0 l5 h = some y) (hK : zE g x (some .int) 0 0 157 y.2 (some (0, y.1))) : ZV g x 6 h 122 [(0, (2, l0)), (5, (0, l5))] [] := by
  unfold M_readMarked_j122 at hf
  refine z_aload_n X dX12_readMarked_122 0 rfl ?_
  obtain ⟨g5, hf⟩ := gif hf
  obtain ⟨r123, hr123, hf⟩ := obE hf
  refine y_V0 X cv_RX12_89 dX12_readMarked_123 g5 (c_M_advance d (Nat.le_trans (by decide) hd) l0 h r123 hr123) (as := []) rfl rfl (Nat.le_of_ble_eq_true rfl) z00 ?_
  refine z_iload X dX12_readMarked_126 1 rfl ?_
  cases hf
  exact z_iret X hK dX12_readMarked_128
set_option maxHeartbeats 4000000 in
set_option maxRecDepth 100000 in
theorem z_M_readMarked_j101 {g : GP} {x : CX} {d : Nat} (X : zX g x RX12 cX12_readMarked 6 (d + 1)) (hd : 2 ≤ d) (l0 l4 l5 : Int) (h : Hp) (y : Int × Hp) (hf : M_readMarked_j101 l0 l4 l5 h = some y) (hK : zE g x (some .int) 0 0 157 y.2 (some (0, y.1))) : ZV g x 6 h 101 [(0, (2, l0)), (4, (0, l4)), (5, (0, l5))] [] := by
  unfold M_readMarked_j101 at hf
  refine z_aload_n X dX12_readMarked_101 0 rfl ?_
  obtain ⟨g4, hf⟩ := gif hf
  obtain ⟨r102, hr102, hf⟩ := obE hf
  refine y_V1 X cv_RX12_75 dX12_readMarked_102 g4 (c_M_good d (Nat.zero_le _) l0 h r102 hr102) (as := []) rfl rfl (Nat.le_of_ble_eq_true rfl) z00 ?_
  refine z_if_ne X dX12_readMarked_105 rfl (fun hc105 => ?_) (fun hc105 => ?_)
  · have hf := iff' hc105 hf
    refine z_iload X dX12_readMarked_111 1 rfl ?_
    refine z_if_eq X dX12_readMarked_113 rfl (fun hc113 => ?_) (fun hc113 => ?_)
    · have hf := ift hc113 hf
      exact z_weak [0, 2] rfl (z_M_readMarked_j122 X hd l0 l5 h _ hf hK)
    · have hf := iff' hc113 hf
      refine z_aload_n X dX12_readMarked_116 0 rfl ?_
      refine z_iload X dX12_readMarked_117 2 rfl ?_
      refine y_put X fl_RX12_134 dX12_readMarked_119 g4 rfl (by decide) ?_
      let h_1 : Hp := hput h l0 30 l5
      exact z_weak [0, 2] rfl (z_M_readMarked_j122 X hd l0 l5 h_1 _ hf hK)
  · have hf := ift hc105 hf
    refine z_iload X dX12_readMarked_108 2 rfl ?_
    cases hf
    exact z_iret X hK dX12_readMarked_110
set_option maxHeartbeats 4000000 in
set_option maxRecDepth 100000 in
theorem z_M_readMarked_j63 {g : GP} {x : CX} {d : Nat} (X : zX g x RX12 cX12_readMarked 6 (d + 1)) (hd : 2 ≤ d) (l0 l1 l2 l3 l4 s0 s1 : Int) (h : Hp) (y : Int × Hp) (hf : M_readMarked_j63 l0 l1 l2 l3 l4 s0 s1 h = some y) (hK : zE g x (some .int) 0 0 157 y.2 (some (0, y.1))) : ZV g x 6 h 63 [(0, (2, l0)), (1, (0, l1)), (2, (0, l2)), (3, (0, l3)), (4, (0, l4))] [(0, s0), (2, s1)] := by
  unfold M_readMarked_j63 at hf
  refine z_iload_n X dX12_readMarked_63 3 rfl ?_
  refine z_iload_n X dX12_readMarked_64 1 rfl ?_
  refine z_iload_n X dX12_readMarked_65 2 rfl ?_
  obtain ⟨g2, hf⟩ := gif hf
  obtain ⟨r66, hr66, hf⟩ := obE hf
  refine y_V1 X cv_RX12_116 dX12_readMarked_66 g2 (c_M_opens d (Nat.le_trans (by decide) hd) s1 s0 l3 l1 l2 h r66 hr66) (as := [(0, s0), (0, l3), (0, l1), (0, l2)]) rfl rfl (Nat.le_of_ble_eq_true rfl) z00 ?_
  refine z_istore X dX12_readMarked_69 (by decide) (ls' := [(5, (0, r66.1)), (0, (2, l0)), (1, (0, l1)), (2, (0, l2)), (3, (0, l3)), (4, (0, l4))]) rfl ?_
  refine z_aload_n X dX12_readMarked_71 1 rfl ?_
  obtain ⟨g3, hf⟩ := gif hf
  obtain ⟨r72, hr72, hf⟩ := obE hf
  refine y_V1 X cv_RX12_75 dX12_readMarked_72 g3 (c_M_good d (Nat.zero_le _) l0 r66.2 r72 hr72) (as := []) rfl rfl (Nat.le_of_ble_eq_true rfl) z00 ?_
  refine z_if_eq X dX12_readMarked_75 rfl (fun hc75 => ?_) (fun hc75 => ?_)
  · have hf := ift hc75 hf
    exact z_weak [1, 5, 0] rfl (z_M_readMarked_j101 X hd l0 l4 r66.1 r66.2 _ hf hK)
  · have hf := iff' hc75 hf
    refine z_iload X dX12_readMarked_78 5 rfl ?_
    refine z_if_ne X dX12_readMarked_80 rfl (fun hc80 => ?_) (fun hc80 => ?_)
    · have hf := iff' hc80 hf
      exact z_weak [1, 5, 0] rfl (z_M_readMarked_j101 X hd l0 l4 r66.1 r66.2 _ hf hK)
    · have hf := ift hc80 hf
      refine z_aload_n X dX12_readMarked_83 1 rfl ?_
      refine z_bipush X dX12_readMarked_84 kb_94 kc_94 ?_
      obtain ⟨r86, hr86, hf⟩ := obE hf
      refine y_V1 X cv_RX12_82 dX12_readMarked_86 g3 (c_M_isSign d (Nat.le_trans (by decide) hd) l0 94 r66.2 r86 hr86) (as := [(0, 94)]) rfl rfl (Nat.le_of_ble_eq_true rfl) z00 ?_
      refine z_if_ne X dX12_readMarked_89 rfl (fun hc89 => ?_) (fun hc89 => ?_)
      · have hf := iff' hc89 hf
        exact z_weak [1, 5, 0] rfl (z_M_readMarked_j101 X hd l0 l4 r66.1 r66.2 _ hf hK)
      · have hf := ift hc89 hf
        refine z_aload_n X dX12_readMarked_92 1 rfl ?_
        refine z_iconst X dX12_readMarked_93 kc_1 ?_
        refine z_aload_n X dX12_readMarked_94 1 rfl ?_
        refine y_get X fl_RX12_51 dX12_readMarked_95 g3 ?_
        obtain ⟨r98, hr98, hf⟩ := obE hf
        refine y_V0 X cv_RX12_85 dX12_readMarked_98 g3 (c_M_errsAt d (Nat.le_trans (by decide) hd) l0 1 (r66.2 l0 24) r66.2 r98 hr98) (as := [(0, 1), (0, r66.2 l0 24)]) rfl rfl (Nat.le_of_ble_eq_true rfl) z00 ?_
        exact z_weak [1, 5, 0] rfl (z_M_readMarked_j101 X hd l0 l4 r66.1 r98 _ hf hK)
set_option maxHeartbeats 4000000 in
set_option maxRecDepth 100000 in
theorem z_M_readMarked_j52 {g : GP} {x : CX} {d : Nat} (X : zX g x RX12 cX12_readMarked 6 (d + 1)) (hd : 2 ≤ d) (l0 l1 l2 l3 l4 : Int) (h : Hp) (y : Int × Hp) (hf : M_readMarked_j52 l0 l1 l2 l3 l4 h = some y) (hK : zE g x (some .int) 0 0 157 y.2 (some (0, y.1))) : ZV g x 6 h 52 [(0, (2, l0)), (1, (0, l1)), (2, (0, l2)), (3, (0, l3)), (4, (0, l4))] [] := by
  unfold M_readMarked_j52 at hf
  refine z_aload_n X dX12_readMarked_52 0 rfl ?_
  refine z_iload X dX12_readMarked_53 4 rfl ?_
  refine z_if_eq X dX12_readMarked_55 rfl (fun hc55 => ?_) (fun hc55 => ?_)
  · rw [if_pos hc55] at hf
    refine z_iconst X dX12_readMarked_62 kc_4 ?_
    exact (z_M_readMarked_j63 X hd l0 l1 l2 l3 l4 4 l0 h _ hf hK)
  · rw [if_neg hc55] at hf
    refine z_iconst X dX12_readMarked_58 kc_3 ?_
    refine z_goto X dX12_readMarked_59 rfl ?_
    exact (z_M_readMarked_j63 X hd l0 l1 l2 l3 l4 3 l0 h _ hf hK)
set_option maxHeartbeats 4000000 in
set_option maxRecDepth 100000 in
theorem z_M_readMarked_j46 {g : GP} {x : CX} {d : Nat} (X : zX g x RX12 cX12_readMarked 6 (d + 1)) (hd : 2 ≤ d) (l0 l1 l2 l3 l4 : Int) (h : Hp) (y : Int × Hp) (hf : M_readMarked_j46 l0 l1 l2 l3 l4 h = some y) (hK : zE g x (some .int) 0 0 157 y.2 (some (0, y.1))) : ZV g x 6 h 46 [(0, (2, l0)), (1, (0, l1)), (2, (0, l2)), (3, (0, l3)), (4, (0, l4))] [] := by
  unfold M_readMarked_j46 at hf
  refine z_aload_n X dX12_readMarked_46 0 rfl ?_
  refine z_iconst X dX12_readMarked_47 kc_2 ?_
  refine z_iload_n X dX12_readMarked_48 2 rfl ?_
  obtain ⟨g6, hf⟩ := gif hf
  obtain ⟨r49, hr49, hf⟩ := obE hf
  refine y_V0 X cv_RX12_85 dX12_readMarked_49 g6 (c_M_errsAt d (Nat.le_trans (by decide) hd) l0 2 l2 h r49 hr49) (as := [(0, 2), (0, l2)]) rfl rfl (Nat.le_of_ble_eq_true rfl) z00 ?_
  exact (z_M_readMarked_j52 X hd l0 l1 l2 l3 l4 r49 _ hf hK)
set_option maxHeartbeats 4000000 in
set_option maxRecDepth 100000 in
theorem c_M_readMarked {l : Launch} {g : GP} (d : Nat) (hd : 3 ≤ d) (l0 l1 l2 : Int) (h : Hp) (y : Int × Hp) (hf : M_readMarked l0 l1 l2 h = some y) : zM l yX12_readMarked cX12_readMarked 6 (some .int) d 0 0 g 157 h [(2, l0), (0, l1), (0, l2)] 157 y.2 (some (0, y.1)) := by
  obtain ⟨d, rfl⟩ : ∃ k, d = k + 1 := ⟨d - 1, by omega⟩
  replace hd : 2 ≤ d := Nat.le_of_succ_le_succ hd
  refine z_start (by decide) (Nat.le_of_ble_eq_true rfl) (fun x X hK _ _ _ hl => ?_)
  show ZV g x 6 h 0 [(0, (2, l0)), (1, (0, l1)), (2, (0, l2))] []
  unfold M_readMarked at hf
  refine z_aload_n X dX12_readMarked_0 0 rfl ?_
  obtain ⟨g1, hf⟩ := gif hf
  refine y_get X fl_RX12_58 dX12_readMarked_1 g1 ?_
  refine z_istore_n X dX12_readMarked_4 (by decide) (ls' := [(3, (0, h l0 26)), (0, (2, l0)), (1, (0, l1)), (2, (0, l2))]) rfl ?_
  refine z_aload_n X dX12_readMarked_5 1 rfl ?_
  obtain ⟨r6, hr6, hf⟩ := obE hf
  refine y_V0 X cv_RX12_89 dX12_readMarked_6 g1 (c_M_advance d (Nat.le_trans (by decide) hd) l0 h r6 hr6) (as := []) rfl rfl (Nat.le_of_ble_eq_true rfl) z00 ?_
  refine z_aload_n X dX12_readMarked_9 1 rfl ?_
  refine z_bipush X dX12_readMarked_10 kb_42 kc_42 ?_
  obtain ⟨r12, hr12, hf⟩ := obE hf
  refine y_V1 X cv_RX12_82 dX12_readMarked_12 g1 (c_M_isSign d (Nat.le_trans (by decide) hd) l0 42 r6 r12 hr12) (as := [(0, 42)]) rfl rfl (Nat.le_of_ble_eq_true rfl) z00 ?_
  refine z_istore X dX12_readMarked_15 (by decide) (ls' := [(4, (0, r12)), (3, (0, h l0 26)), (0, (2, l0)), (1, (0, l1)), (2, (0, l2))]) rfl ?_
  refine z_iload X dX12_readMarked_17 0 rfl ?_
  refine z_if_eq X dX12_readMarked_19 rfl (fun hc19 => ?_) (fun hc19 => ?_)
  · have hf := ift hc19 hf
    exact z_weak [2, 3, 4, 1, 0] rfl (z_M_readMarked_j52 X hd l0 l1 l2 (h l0 26) r12 r6 _ hf hK)
  · have hf := iff' hc19 hf
    refine z_aload_n X dX12_readMarked_22 2 rfl ?_
    refine y_get X fl_RX12_134 dX12_readMarked_23 g1 ?_
    refine z_iconst X dX12_readMarked_26 kc_m1 ?_
    refine z_icmp_ne X dX12_readMarked_27 rfl (fun hc27 => ?_) (fun hc27 => ?_)
    · have hf := iff' hc27 hf
      exact z_weak [2, 3, 4, 1, 0] rfl (z_M_readMarked_j46 X hd l0 l1 l2 (h l0 26) r12 r6 _ hf hK)
    · have hf := ift hc27 hf
      refine z_iload_n X dX12_readMarked_30 1 rfl ?_
      refine z_aload_n X dX12_readMarked_31 2 rfl ?_
      refine y_get X fl_RX12_101 dX12_readMarked_32 g1 ?_
      refine z_bipush X dX12_readMarked_35 kb_40 kc_40 ?_
      refine z_aload_n X dX12_readMarked_37 2 rfl ?_
      refine y_get X fl_RX12_95 dX12_readMarked_38 g1 ?_
      refine z_iadd X dX12_readMarked_41 ?_
      obtain ⟨g7, hf⟩ := gif hf
      refine y_iald X dX12_readMarked_42 g7 ?_
      refine z_icmp_eq X dX12_readMarked_43 rfl (fun hc43 => ?_) (fun hc43 => ?_)
      · have hf := ift hc43 hf
        exact z_weak [2, 3, 4, 1, 0] rfl (z_M_readMarked_j52 X hd l0 l1 l2 (h l0 26) r12 r6 _ hf hK)
      · have hf := iff' hc43 hf
        exact z_weak [2, 3, 4, 1, 0] rfl (z_M_readMarked_j46 X hd l0 l1 l2 (h l0 26) r12 r6 _ hf hK)
def M_readBranch_G_IH (l : Launch) (g : GP) (d : Nat) : Prop := (∀ (l0 l1 : Int) (h : Hp) (y : Int × Hp), M_readBranch_G d 0 [l0, l1] h = some y → zM l yX12_readBranch cX12_readBranch 6 (some .int) d 0 0 g 157 h [(2, l0), (0, l1)] 157 y.2 (some (0, y.1))) ∧ (∀ (l0 l1 : Int) (h : Hp) (y : Int × Hp), M_readBranch_G d 1 [l0, l1] h = some y → zM l yX12_readChild cX12_readChild 4 (some .int) d 0 0 g 157 h [(2, l0), (0, l1)] 157 y.2 (some (0, y.1)))
set_option maxHeartbeats 4000000 in
set_option maxRecDepth 100000 in
theorem z_M_readBranch_j131 {g : GP} {x : CX} {d : Nat} (X : zX g x RX12 cX12_readBranch 6 (d + 1)) (hd : 3 ≤ d) (IH : M_readBranch_G_IH (xl x) g d) (l0 l3 l4 s0 : Int) (h : Hp) (y : Int × Hp) (hf : M_readBranch_j131 (M_readBranch_G d) d l0 l3 l4 s0 h = some y) (hK : zE g x (some .int) 0 0 157 y.2 (some (0, y.1))) : ZV g x 6 h 131 [(0, (2, l0)), (3, (0, l3)), (4, (0, l4))] [(0, s0)] := by
  unfold M_readBranch_j131 at hf
  refine z_istore X dX12_readBranch_131 (by decide) (ls' := [(5, (0, s0)), (0, (2, l0)), (3, (0, l3)), (4, (0, l4))]) rfl ?_
  refine z_aload_n X dX12_readBranch_133 1 rfl ?_
  obtain ⟨g9, hf⟩ := gif hf
  obtain ⟨r134, hr134, hf⟩ := obE hf
  refine y_V1 X cv_RX12_75 dX12_readBranch_134 g9 (c_M_good d (Nat.zero_le _) l0 h r134 hr134) (as := []) rfl rfl (Nat.le_of_ble_eq_true rfl) z00 ?_
  refine z_if_ne X dX12_readBranch_137 rfl (fun hc137 => ?_) (fun hc137 => ?_)
  · have hf := iff' hc137 hf
    refine z_aload_n X dX12_readBranch_142 1 rfl ?_
    refine y_get X fl_RX12_107 dX12_readBranch_143 g9 ?_
    refine z_iload_n X dX12_readBranch_146 2 rfl ?_
    refine z_iload X dX12_readBranch_147 3 rfl ?_
    obtain ⟨g10, hf⟩ := gif hf
    refine y_iast X dX12_readBranch_149 g10 ?_
    let h_2 : Hp := hput h (h l0 8) l3 l4
    refine z_aload_n X dX12_readBranch_150 1 rfl ?_
    refine y_get X fl_RX12_110 dX12_readBranch_151 g9 ?_
    refine z_iload_n X dX12_readBranch_154 2 rfl ?_
    refine z_iload X dX12_readBranch_155 0 rfl ?_
    obtain ⟨g11, hf⟩ := gif hf
    refine y_iast X dX12_readBranch_157 g11 ?_
    let h_3 : Hp := hput h_2 (h_2 l0 9) l3 s0
    refine z_iload_n X dX12_readBranch_158 2 rfl ?_
    cases hf
    exact z_iret X hK dX12_readBranch_159
  · have hf := ift hc137 hf
    refine z_iload_n X dX12_readBranch_140 2 rfl ?_
    cases hf
    exact z_iret X hK dX12_readBranch_141
set_option maxHeartbeats 4000000 in
set_option maxRecDepth 100000 in
theorem z_M_readBranch_j130 {g : GP} {x : CX} {d : Nat} (X : zX g x RX12 cX12_readBranch 6 (d + 1)) (hd : 3 ≤ d) (IH : M_readBranch_G_IH (xl x) g d) (l0 l3 l4 : Int) (h : Hp) (y : Int × Hp) (hf : M_readBranch_j130 (M_readBranch_G d) d l0 l3 l4 h = some y) (hK : zE g x (some .int) 0 0 157 y.2 (some (0, y.1))) : ZV g x 6 h 130 [(0, (2, l0)), (3, (0, l3)), (4, (0, l4))] [] := by
  unfold M_readBranch_j130 at hf
  refine z_iconst X dX12_readBranch_130 kc_m1 ?_
  exact (z_M_readBranch_j131 X hd IH l0 l3 l4 ((-1)) h _ hf hK)
set_option maxHeartbeats 4000000 in
set_option maxRecDepth 100000 in
theorem z_M_readBranch_j99 {g : GP} {x : CX} {d : Nat} (X : zX g x RX12 cX12_readBranch 6 (d + 1)) (hd : 3 ≤ d) (IH : M_readBranch_G_IH (xl x) g d) (l0 l3 : Int) (h : Hp) (y : Int × Hp) (hf : M_readBranch_j99 (M_readBranch_G d) d l0 l3 h = some y) (hK : zE g x (some .int) 0 0 157 y.2 (some (0, y.1))) : ZV g x 6 h 99 [(0, (2, l0)), (3, (0, l3))] [] := by
  unfold M_readBranch_j99 at hf
  refine z_aload_n X dX12_readBranch_99 0 rfl ?_
  refine z_iload_n X dX12_readBranch_100 1 rfl ?_
  obtain ⟨g8, hf⟩ := gif hf
  obtain ⟨r101, hr101, hf⟩ := obE hf
  refine y_V1 X cv_RX12_120 dX12_readBranch_101 g8 (IH.2 l0 l3 h r101 hr101) (as := [(0, l3)]) rfl rfl (Nat.le_of_ble_eq_true rfl) z00 ?_
  refine z_istore X dX12_readBranch_104 (by decide) (ls' := [(4, (0, r101.1)), (0, (2, l0)), (3, (0, l3))]) rfl ?_
  refine z_aload_n X dX12_readBranch_106 1 rfl ?_
  obtain ⟨r107, hr107, hf⟩ := obE hf
  refine y_V1 X cv_RX12_75 dX12_readBranch_107 g8 (c_M_good d (Nat.zero_le _) l0 r101.2 r107 hr107) (as := []) rfl rfl (Nat.le_of_ble_eq_true rfl) z00 ?_
  refine z_if_eq X dX12_readBranch_110 rfl (fun hc110 => ?_) (fun hc110 => ?_)
  · have hf := ift hc110 hf
    exact z_weak [1, 2, 0] rfl (z_M_readBranch_j130 X hd IH l0 l3 r101.1 r101.2 _ hf hK)
  · have hf := iff' hc110 hf
    refine z_aload_n X dX12_readBranch_113 1 rfl ?_
    refine z_bipush X dX12_readBranch_114 kb_41 kc_41 ?_
    obtain ⟨r116, hr116, hf⟩ := obE hf
    refine y_V1 X cv_RX12_82 dX12_readBranch_116 g8 (c_M_isSign d (Nat.le_trans (by decide) hd) l0 41 r101.2 r116 hr116) (as := [(0, 41)]) rfl rfl (Nat.le_of_ble_eq_true rfl) z00 ?_
    refine z_if_ne X dX12_readBranch_119 rfl (fun hc119 => ?_) (fun hc119 => ?_)
    · have hf := iff' hc119 hf
      exact z_weak [1, 2, 0] rfl (z_M_readBranch_j130 X hd IH l0 l3 r101.1 r101.2 _ hf hK)
    · have hf := ift hc119 hf
      refine z_aload_n X dX12_readBranch_122 1 rfl ?_
      refine z_iload_n X dX12_readBranch_123 2 rfl ?_
      obtain ⟨r124, hr124, hf⟩ := obE hf
      refine y_V1 X cv_RX12_120 dX12_readBranch_124 g8 (IH.2 l0 l3 r101.2 r124 hr124) (as := [(0, l3)]) rfl rfl (Nat.le_of_ble_eq_true rfl) z00 ?_
      refine z_goto X dX12_readBranch_127 rfl ?_
      exact z_weak [1, 2, 0] rfl (z_M_readBranch_j131 X hd IH l0 l3 r101.1 r124.1 r124.2 _ hf hK)
set_option maxHeartbeats 4000000 in
set_option maxRecDepth 100000 in
theorem z_M_readBranch_j94 {g : GP} {x : CX} {d : Nat} (X : zX g x RX12 cX12_readBranch 6 (d + 1)) (hd : 3 ≤ d) (IH : M_readBranch_G_IH (xl x) g d) (l0 l3 s0 s1 s2 : Int) (h : Hp) (y : Int × Hp) (hf : M_readBranch_j94 (M_readBranch_G d) d l0 l3 s0 s1 s2 h = some y) (hK : zE g x (some .int) 0 0 157 y.2 (some (0, y.1))) : ZV g x 6 h 94 [(0, (2, l0)), (3, (0, l3))] [(0, s0), (0, s1), (2, s2)] := by
  unfold M_readBranch_j94 at hf
  obtain ⟨g6, hf⟩ := gif hf
  refine y_iast X dX12_readBranch_94 g6 ?_
  let h_1 : Hp := hput h s2 s1 s0
  refine z_aload_n X dX12_readBranch_95 0 rfl ?_
  obtain ⟨g7, hf⟩ := gif hf
  obtain ⟨r96, hr96, hf⟩ := obE hf
  refine y_V0 X cv_RX12_89 dX12_readBranch_96 g7 (c_M_advance d (Nat.le_trans (by decide) hd) l0 h_1 r96 hr96) (as := []) rfl rfl (Nat.le_of_ble_eq_true rfl) z00 ?_
  exact (z_M_readBranch_j99 X hd IH l0 l3 r96 _ hf hK)
set_option maxHeartbeats 4000000 in
set_option maxRecDepth 100000 in
theorem z_M_readBranch_j75 {g : GP} {x : CX} {d : Nat} (X : zX g x RX12 cX12_readBranch 6 (d + 1)) (hd : 3 ≤ d) (IH : M_readBranch_G_IH (xl x) g d) (l0 l3 : Int) (h : Hp) (y : Int × Hp) (hf : M_readBranch_j75 (M_readBranch_G d) d l0 l3 h = some y) (hK : zE g x (some .int) 0 0 157 y.2 (some (0, y.1))) : ZV g x 6 h 75 [(0, (2, l0)), (3, (0, l3))] [] := by
  unfold M_readBranch_j75 at hf
  refine z_aload_n X dX12_readBranch_75 0 rfl ?_
  obtain ⟨g5, hf⟩ := gif hf
  refine y_get X fl_RX12_104 dX12_readBranch_76 g5 ?_
  refine z_iload_n X dX12_readBranch_79 1 rfl ?_
  refine z_aload_n X dX12_readBranch_80 0 rfl ?_
  refine y_get X fl_RX12_58 dX12_readBranch_81 g5 ?_
  refine z_bipush X dX12_readBranch_84 kb_33 kc_33 ?_
  refine z_icmp_ne X dX12_readBranch_86 rfl (fun hc86 => ?_) (fun hc86 => ?_)
  · rw [if_neg hc86] at hf
    refine z_iconst X dX12_readBranch_93 kc_2 ?_
    exact (z_M_readBranch_j94 X hd IH l0 l3 2 l3 (h l0 7) h _ hf hK)
  · rw [if_pos hc86] at hf
    refine z_iconst X dX12_readBranch_89 kc_1 ?_
    refine z_goto X dX12_readBranch_90 rfl ?_
    exact (z_M_readBranch_j94 X hd IH l0 l3 1 l3 (h l0 7) h _ hf hK)
set_option maxHeartbeats 4000000 in
set_option maxRecDepth 100000 in
theorem z_M_readBranch_j57 {g : GP} {x : CX} {d : Nat} (X : zX g x RX12 cX12_readBranch 6 (d + 1)) (hd : 3 ≤ d) (IH : M_readBranch_G_IH (xl x) g d) (l0 l3 : Int) (h : Hp) (y : Int × Hp) (hf : M_readBranch_j57 (M_readBranch_G d) d l0 l3 h = some y) (hK : zE g x (some .int) 0 0 157 y.2 (some (0, y.1))) : ZV g x 6 h 57 [(0, (2, l0)), (3, (0, l3))] [] := by
  unfold M_readBranch_j57 at hf
  refine z_aload_n X dX12_readBranch_57 0 rfl ?_
  refine z_bipush X dX12_readBranch_58 kb_33 kc_33 ?_
  obtain ⟨g4, hf⟩ := gif hf
  obtain ⟨r60, hr60, hf⟩ := obE hf
  refine y_V1 X cv_RX12_82 dX12_readBranch_60 g4 (c_M_isSign d (Nat.le_trans (by decide) hd) l0 33 h r60 hr60) (as := [(0, 33)]) rfl rfl (Nat.le_of_ble_eq_true rfl) z00 ?_
  refine z_if_ne X dX12_readBranch_63 rfl (fun hc63 => ?_) (fun hc63 => ?_)
  · have hf := iff' hc63 hf
    exact (z_M_readBranch_j75 X hd IH l0 l3 h _ hf hK)
  · have hf := ift hc63 hf
    refine z_aload_n X dX12_readBranch_66 0 rfl ?_
    refine z_bipush X dX12_readBranch_67 kb_43 kc_43 ?_
    obtain ⟨r69, hr69, hf⟩ := obE hf
    refine y_V1 X cv_RX12_82 dX12_readBranch_69 g4 (c_M_isSign d (Nat.le_trans (by decide) hd) l0 43 h r69 hr69) (as := [(0, 43)]) rfl rfl (Nat.le_of_ble_eq_true rfl) z00 ?_
    refine z_if_eq X dX12_readBranch_72 rfl (fun hc72 => ?_) (fun hc72 => ?_)
    · have hf := ift hc72 hf
      exact (z_M_readBranch_j99 X hd IH l0 l3 h _ hf hK)
    · have hf := iff' hc72 hf
      exact (z_M_readBranch_j75 X hd IH l0 l3 h _ hf hK)
set_option maxHeartbeats 4000000 in
set_option maxRecDepth 100000 in
theorem z_M_readBranch_j45 {g : GP} {x : CX} {d : Nat} (X : zX g x RX12 cX12_readBranch 6 (d + 1)) (hd : 3 ≤ d) (IH : M_readBranch_G_IH (xl x) g d) (l0 s0 : Int) (h : Hp) (y : Int × Hp) (hf : M_readBranch_j45 (M_readBranch_G d) d l0 s0 h = some y) (hK : zE g x (some .int) 0 0 157 y.2 (some (0, y.1))) : ZV g x 6 h 45 [(0, (2, l0))] [(0, s0)] := by
  unfold M_readBranch_j45 at hf
  refine z_istore_n X dX12_readBranch_45 (by decide) (ls' := [(3, (0, s0)), (0, (2, l0))]) rfl ?_
  refine z_aload_n X dX12_readBranch_46 1 rfl ?_
  obtain ⟨g3, hf⟩ := gif hf
  obtain ⟨r47, hr47, hf⟩ := obE hf
  refine y_V1 X cv_RX12_75 dX12_readBranch_47 g3 (c_M_good d (Nat.zero_le _) l0 h r47 hr47) (as := []) rfl rfl (Nat.le_of_ble_eq_true rfl) z00 ?_
  refine z_if_eq X dX12_readBranch_50 rfl (fun hc50 => ?_) (fun hc50 => ?_)
  · have hf := ift hc50 hf
    exact z_weak [1, 0] rfl (z_M_readBranch_j57 X hd IH l0 s0 h _ hf hK)
  · have hf := iff' hc50 hf
    refine z_aload_n X dX12_readBranch_53 1 rfl ?_
    obtain ⟨r54, hr54, hf⟩ := obE hf
    refine y_V0 X cv_RX12_89 dX12_readBranch_54 g3 (c_M_advance d (Nat.le_trans (by decide) hd) l0 h r54 hr54) (as := []) rfl rfl (Nat.le_of_ble_eq_true rfl) z00 ?_
    exact z_weak [1, 0] rfl (z_M_readBranch_j57 X hd IH l0 s0 r54 _ hf hK)
set_option maxHeartbeats 4000000 in
set_option maxRecDepth 100000 in
theorem z_M_readBranch_j22 {g : GP} {x : CX} {d : Nat} (X : zX g x RX12 cX12_readBranch 6 (d + 1)) (hd : 3 ≤ d) (IH : M_readBranch_G_IH (xl x) g d) (l0 l1 l2 : Int) (h : Hp) (y : Int × Hp) (hf : M_readBranch_j22 (M_readBranch_G d) d l0 l1 l2 h = some y) (hK : zE g x (some .int) 0 0 157 y.2 (some (0, y.1))) : ZV g x 6 h 22 [(0, (2, l0)), (1, (0, l1)), (2, (0, l2))] [] := by
  unfold M_readBranch_j22 at hf
  refine z_aload_n X dX12_readBranch_22 0 rfl ?_
  obtain ⟨g2, hf⟩ := gif hf
  obtain ⟨r23, hr23, hf⟩ := obE hf
  refine y_V1 X cv_RX12_75 dX12_readBranch_23 g2 (c_M_good d (Nat.zero_le _) l0 h r23 hr23) (as := []) rfl rfl (Nat.le_of_ble_eq_true rfl) z00 ?_
  refine z_if_eq X dX12_readBranch_26 rfl (fun hc26 => ?_) (fun hc26 => ?_)
  · have hf := ift hc26 hf
    refine z_bipush X dX12_readBranch_43 kb_40 kc_40 ?_
    exact z_weak [0] rfl (z_M_readBranch_j45 X hd IH l0 40 h _ hf hK)
  · have hf := iff' hc26 hf
    refine z_aload_n X dX12_readBranch_29 0 rfl ?_
    refine z_iconst X dX12_readBranch_30 kc_0 ?_
    refine z_aload_n X dX12_readBranch_31 0 rfl ?_
    refine y_get X fl_RX12_58 dX12_readBranch_32 g2 ?_
    refine z_iload_n X dX12_readBranch_35 1 rfl ?_
    refine z_iload_n X dX12_readBranch_36 2 rfl ?_
    obtain ⟨r37, hr37, hf⟩ := obE hf
    refine y_V1 X cv_RX12_116 dX12_readBranch_37 g2 (c_M_opens d (Nat.le_trans (by decide) hd) l0 0 (h l0 26) l1 l2 h r37 hr37) (as := [(0, 0), (0, h l0 26), (0, l1), (0, l2)]) rfl rfl (Nat.le_of_ble_eq_true rfl) z00 ?_
    refine z_goto X dX12_readBranch_40 rfl ?_
    exact z_weak [0] rfl (z_M_readBranch_j45 X hd IH l0 r37.1 r37.2 _ hf hK)
set_option maxHeartbeats 4000000 in
set_option maxRecDepth 100000 in
theorem cb_M_readBranch {l : Launch} {g : GP} {d : Nat} (IH : M_readBranch_G_IH l g d) (hd : 3 ≤ d) (l0 l1 : Int) (h : Hp) (y : Int × Hp) (hf : M_readBranch_b (M_readBranch_G d) d l0 l1 h = some y) : zM l yX12_readBranch cX12_readBranch 6 (some .int) (d + 1) 0 0 g 157 h [(2, l0), (0, l1)] 157 y.2 (some (0, y.1)) := by
  refine z_start (by decide) (Nat.le_of_ble_eq_true rfl) (fun x X hK _ _ _ hl => ?_)
  have IH : M_readBranch_G_IH (xl x) g d := hl ▸ IH
  show ZV g x 6 h 0 [(0, (2, l0)), (1, (0, l1))] []
  unfold M_readBranch_b at hf
  refine z_aload_n X dX12_readBranch_0 0 rfl ?_
  obtain ⟨g1, hf⟩ := gif hf
  refine y_get X fl_RX12_51 dX12_readBranch_1 g1 ?_
  refine z_istore_n X dX12_readBranch_4 (by decide) (ls' := [(2, (0, h l0 24)), (0, (2, l0)), (1, (0, l1))]) rfl ?_
  refine z_aload_n X dX12_readBranch_5 1 rfl ?_
  refine y_get X fl_RX12_61 dX12_readBranch_6 g1 ?_
  refine z_iconst X dX12_readBranch_9 kc_2 ?_
  refine z_icmp_eq X dX12_readBranch_10 rfl (fun hc10 => ?_) (fun hc10 => ?_)
  · have hf := ift hc10 hf
    exact z_weak [1, 2, 0] rfl (z_M_readBranch_j22 X hd IH l0 l1 (h l0 24) h _ hf hK)
  · have hf := iff' hc10 hf
    refine z_aload_n X dX12_readBranch_13 1 rfl ?_
    refine z_iconst X dX12_readBranch_14 kc_1 ?_
    refine z_aload_n X dX12_readBranch_15 1 rfl ?_
    refine y_get X fl_RX12_51 dX12_readBranch_16 g1 ?_
    obtain ⟨r19, hr19, hf⟩ := obE hf
    refine y_V0 X cv_RX12_85 dX12_readBranch_19 g1 (c_M_errsAt d (Nat.le_trans (by decide) hd) l0 1 (h l0 24) h r19 hr19) (as := [(0, 1), (0, h l0 24)]) rfl rfl (Nat.le_of_ble_eq_true rfl) z00 ?_
    exact z_weak [1, 2, 0] rfl (z_M_readBranch_j22 X hd IH l0 l1 (h l0 24) r19 _ hf hK)
set_option maxHeartbeats 4000000 in
set_option maxRecDepth 100000 in
theorem z_M_readChild_j62 {g : GP} {x : CX} {d : Nat} (X : zX g x RX12 cX12_readChild 4 (d + 1)) (hd : 3 ≤ d) (IH : M_readBranch_G_IH (xl x) g d) (l0 l1 l2 s0 s1 s2 : Int) (h : Hp) (y : Int × Hp) (hf : M_readChild_j62 (M_readBranch_G d) d l0 l1 l2 s0 s1 s2 h = some y) (hK : zE g x (some .int) 0 0 157 y.2 (some (0, y.1))) : ZV g x 4 h 62 [(0, (2, l0)), (1, (0, l1)), (2, (0, l2))] [(0, s0), (0, s1), (2, s2)] := by
  unfold M_readChild_j62 at hf
  refine z_iload_n X dX12_readChild_62 1 rfl ?_
  refine z_iload_n X dX12_readChild_63 2 rfl ?_
  obtain ⟨g4, hf⟩ := gif hf
  obtain ⟨r64, hr64, hf⟩ := obE hf
  refine y_V1 X cv_RX12_116 dX12_readChild_64 g4 (c_M_opens d (Nat.le_trans (by decide) hd) s2 s1 s0 l1 l2 h r64 hr64) (as := [(0, s1), (0, s0), (0, l1), (0, l2)]) rfl rfl (Nat.le_of_ble_eq_true rfl) z00 ?_
  refine z_istore_n X dX12_readChild_67 (by decide) (ls' := [(3, (0, r64.1)), (0, (2, l0)), (1, (0, l1)), (2, (0, l2))]) rfl ?_
  refine z_aload_n X dX12_readChild_68 1 rfl ?_
  obtain ⟨g5, hf⟩ := gif hf
  obtain ⟨r69, hr69, hf⟩ := obE hf
  refine y_V1 X cv_RX12_75 dX12_readChild_69 g5 (c_M_good d (Nat.zero_le _) l0 r64.2 r69 hr69) (as := []) rfl rfl (Nat.le_of_ble_eq_true rfl) z00 ?_
  refine z_if_eq X dX12_readChild_72 rfl (fun hc72 => ?_) (fun hc72 => ?_)
  · have hf := ift hc72 hf
    refine z_iload_n X dX12_readChild_79 0 rfl ?_
    cases hf
    exact z_iret X hK dX12_readChild_80
  · have hf := iff' hc72 hf
    refine z_aload_n X dX12_readChild_75 1 rfl ?_
    obtain ⟨r76, hr76, hf⟩ := obE hf
    refine y_V0 X cv_RX12_89 dX12_readChild_76 g5 (c_M_advance d (Nat.le_trans (by decide) hd) l0 r64.2 r76 hr76) (as := []) rfl rfl (Nat.le_of_ble_eq_true rfl) z00 ?_
    refine z_iload_n X dX12_readChild_79 0 rfl ?_
    cases hf
    exact z_iret X hK dX12_readChild_80
set_option maxHeartbeats 4000000 in
set_option maxRecDepth 100000 in
theorem z_M_readChild_j46 {g : GP} {x : CX} {d : Nat} (X : zX g x RX12 cX12_readChild 4 (d + 1)) (hd : 3 ≤ d) (IH : M_readBranch_G_IH (xl x) g d) (l0 l1 l2 s0 s1 : Int) (h : Hp) (y : Int × Hp) (hf : M_readChild_j46 (M_readBranch_G d) d l0 l1 l2 s0 s1 h = some y) (hK : zE g x (some .int) 0 0 157 y.2 (some (0, y.1))) : ZV g x 4 h 46 [(0, (2, l0)), (1, (0, l1)), (2, (0, l2))] [(0, s0), (2, s1)] := by
  unfold M_readChild_j46 at hf
  refine z_aload_n X dX12_readChild_46 0 rfl ?_
  obtain ⟨g3, hf⟩ := gif hf
  refine y_get X fl_RX12_61 dX12_readChild_47 g3 ?_
  refine z_iconst X dX12_readChild_50 kc_3 ?_
  refine z_icmp_ne X dX12_readChild_51 rfl (fun hc51 => ?_) (fun hc51 => ?_)
  · rw [if_neg hc51] at hf
    refine z_iconst X dX12_readChild_61 kc_m1 ?_
    exact (z_M_readChild_j62 X hd IH l0 l1 l2 ((-1)) s0 s1 h _ hf hK)
  · rw [if_pos hc51] at hf
    refine z_aload_n X dX12_readChild_54 0 rfl ?_
    refine y_get X fl_RX12_58 dX12_readChild_55 g3 ?_
    refine z_goto X dX12_readChild_58 rfl ?_
    exact (z_M_readChild_j62 X hd IH l0 l1 l2 (h l0 26) s0 s1 h _ hf hK)
set_option maxHeartbeats 4000000 in
set_option maxRecDepth 100000 in
theorem z_M_readChild_j32 {g : GP} {x : CX} {d : Nat} (X : zX g x RX12 cX12_readChild 4 (d + 1)) (hd : 3 ≤ d) (IH : M_readBranch_G_IH (xl x) g d) (l0 l1 l2 : Int) (h : Hp) (y : Int × Hp) (hf : M_readChild_j32 (M_readBranch_G d) d l0 l1 l2 h = some y) (hK : zE g x (some .int) 0 0 157 y.2 (some (0, y.1))) : ZV g x 4 h 32 [(0, (2, l0)), (1, (0, l1)), (2, (0, l2))] [] := by
  unfold M_readChild_j32 at hf
  refine z_aload_n X dX12_readChild_32 0 rfl ?_
  refine z_aload_n X dX12_readChild_33 0 rfl ?_
  obtain ⟨g2, hf⟩ := gif hf
  refine y_get X fl_RX12_61 dX12_readChild_34 g2 ?_
  refine z_iconst X dX12_readChild_37 kc_3 ?_
  refine z_icmp_ne X dX12_readChild_38 rfl (fun hc38 => ?_) (fun hc38 => ?_)
  · rw [if_neg hc38] at hf
    refine z_iconst X dX12_readChild_45 kc_2 ?_
    exact (z_M_readChild_j46 X hd IH l0 l1 l2 2 l0 h _ hf hK)
  · rw [if_pos hc38] at hf
    refine z_iconst X dX12_readChild_41 kc_1 ?_
    refine z_goto X dX12_readChild_42 rfl ?_
    exact (z_M_readChild_j46 X hd IH l0 l1 l2 1 l0 h _ hf hK)
set_option maxHeartbeats 4000000 in
set_option maxRecDepth 100000 in
theorem cb_M_readChild {l : Launch} {g : GP} {d : Nat} (IH : M_readBranch_G_IH l g d) (hd : 3 ≤ d) (l0 l1 : Int) (h : Hp) (y : Int × Hp) (hf : M_readChild_b (M_readBranch_G d) d l0 l1 h = some y) : zM l yX12_readChild cX12_readChild 4 (some .int) (d + 1) 0 0 g 157 h [(2, l0), (0, l1)] 157 y.2 (some (0, y.1)) := by
  refine z_start (by decide) (Nat.le_of_ble_eq_true rfl) (fun x X hK _ _ _ hl => ?_)
  have IH : M_readBranch_G_IH (xl x) g d := hl ▸ IH
  show ZV g x 4 h 0 [(0, (2, l0)), (1, (0, l1))] []
  unfold M_readChild_b at hf
  refine z_aload_n X dX12_readChild_0 0 rfl ?_
  obtain ⟨g1, hf⟩ := gif hf
  obtain ⟨r1, hr1, hf⟩ := obE hf
  refine y_V1 X cv_RX12_75 dX12_readChild_1 g1 (c_M_good d (Nat.zero_le _) l0 h r1 hr1) (as := []) rfl rfl (Nat.le_of_ble_eq_true rfl) z00 ?_
  refine z_if_ne X dX12_readChild_4 rfl (fun hc4 => ?_) (fun hc4 => ?_)
  · have hf := iff' hc4 hf
    refine z_aload_n X dX12_readChild_10 0 rfl ?_
    refine y_get X fl_RX12_51 dX12_readChild_11 g1 ?_
    refine z_istore_n X dX12_readChild_14 (by decide) (ls' := [(2, (0, h l0 24)), (0, (2, l0)), (1, (0, l1))]) rfl ?_
    refine z_aload_n X dX12_readChild_15 1 rfl ?_
    refine y_get X fl_RX12_61 dX12_readChild_16 g1 ?_
    refine z_iconst X dX12_readChild_19 kc_3 ?_
    refine z_icmp_eq X dX12_readChild_20 rfl (fun hc20 => ?_) (fun hc20 => ?_)
    · have hf := ift hc20 hf
      exact z_weak [1, 2, 0] rfl (z_M_readChild_j32 X hd IH l0 l1 (h l0 24) h _ hf hK)
    · have hf := iff' hc20 hf
      refine z_aload_n X dX12_readChild_23 1 rfl ?_
      refine z_bipush X dX12_readChild_24 kb_46 kc_46 ?_
      obtain ⟨r26, hr26, hf⟩ := obE hf
      refine y_V1 X cv_RX12_82 dX12_readChild_26 g1 (c_M_isSign d (Nat.le_trans (by decide) hd) l0 46 h r26 hr26) (as := [(0, 46)]) rfl rfl (Nat.le_of_ble_eq_true rfl) z00 ?_
      refine z_if_eq X dX12_readChild_29 rfl (fun hc29 => ?_) (fun hc29 => ?_)
      · have hf := ift hc29 hf
        refine z_aload_n X dX12_readChild_81 1 rfl ?_
        refine z_bipush X dX12_readChild_82 kb_40 kc_40 ?_
        obtain ⟨r84, hr84, hf⟩ := obE hf
        refine y_V1 X cv_RX12_82 dX12_readChild_84 g1 (c_M_isSign d (Nat.le_trans (by decide) hd) l0 40 h r84 hr84) (as := [(0, 40)]) rfl rfl (Nat.le_of_ble_eq_true rfl) z00 ?_
        refine z_if_eq X dX12_readChild_87 rfl (fun hc87 => ?_) (fun hc87 => ?_)
        · have hf := ift hc87 hf
          refine z_aload_n X dX12_readChild_108 1 rfl ?_
          refine y_get X fl_RX12_61 dX12_readChild_109 g1 ?_
          refine z_iconst X dX12_readChild_112 kc_2 ?_
          refine z_icmp_ne X dX12_readChild_113 rfl (fun hc113 => ?_) (fun hc113 => ?_)
          · have hf := iff' hc113 hf
            refine z_aload_n X dX12_readChild_123 1 rfl ?_
            refine z_iconst X dX12_readChild_124 kc_1 ?_
            refine z_aload_n X dX12_readChild_125 1 rfl ?_
            refine y_get X fl_RX12_51 dX12_readChild_126 g1 ?_
            obtain ⟨r129, hr129, hf⟩ := obE hf
            refine y_V0 X cv_RX12_85 dX12_readChild_129 g1 (c_M_errsAt d (Nat.le_trans (by decide) hd) l0 1 (h l0 24) h r129 hr129) (as := [(0, 1), (0, h l0 24)]) rfl rfl (Nat.le_of_ble_eq_true rfl) z00 ?_
            refine z_bipush X dX12_readChild_132 kb_40 kc_40 ?_
            cases hf
            exact z_iret X hK dX12_readChild_134
          · have hf := ift hc113 hf
            refine z_aload_n X dX12_readChild_116 1 rfl ?_
            refine z_iload_n X dX12_readChild_117 2 rfl ?_
            refine z_iload_n X dX12_readChild_118 0 rfl ?_
            obtain ⟨r119, hr119, hf⟩ := obE hf
            refine y_V1 X cv_RX12_130 dX12_readChild_119 g1 (c_M_readMarked d (Nat.le_trans (by decide) hd) l0 l1 (h l0 24) h r119 hr119) (as := [(0, l1), (0, h l0 24)]) rfl rfl (Nat.le_of_ble_eq_true rfl) z00 ?_
            cases hf
            exact z_iret X hK dX12_readChild_122
        · have hf := iff' hc87 hf
          refine z_aload_n X dX12_readChild_90 1 rfl ?_
          obtain ⟨r91, hr91, hf⟩ := obE hf
          refine y_V0 X cv_RX12_89 dX12_readChild_91 g1 (c_M_advance d (Nat.le_trans (by decide) hd) l0 h r91 hr91) (as := []) rfl rfl (Nat.le_of_ble_eq_true rfl) z00 ?_
          refine z_aload_n X dX12_readChild_94 1 rfl ?_
          refine z_iload_n X dX12_readChild_95 2 rfl ?_
          obtain ⟨r96, hr96, hf⟩ := obE hf
          refine y_V1 X cv_RX12_123 dX12_readChild_96 g1 (IH.1 l0 l1 r91 r96 hr96) (as := [(0, l1)]) rfl rfl (Nat.le_of_ble_eq_true rfl) z00 ?_
          refine z_istore_n X dX12_readChild_99 (by decide) (ls' := [(3, (0, r96.1)), (2, (0, h l0 24)), (0, (2, l0)), (1, (0, l1))]) rfl ?_
          refine z_aload_n X dX12_readChild_100 2 rfl ?_
          refine z_bipush X dX12_readChild_101 kb_41 kc_41 ?_
          obtain ⟨r103, hr103, hf⟩ := obE hf
          refine y_V0 X cv_RX12_126 dX12_readChild_103 g1 (c_M_takesSign d (Nat.le_trans (by decide) hd) l0 41 r96.2 r103 hr103) (as := [(0, 41)]) rfl rfl (Nat.le_of_ble_eq_true rfl) z00 ?_
          refine z_iload_n X dX12_readChild_106 0 rfl ?_
          cases hf
          exact z_iret X hK dX12_readChild_107
      · have hf := iff' hc29 hf
        exact z_weak [1, 2, 0] rfl (z_M_readChild_j32 X hd IH l0 l1 (h l0 24) h _ hf hK)
  · have hf := ift hc4 hf
    refine z_bipush X dX12_readChild_7 kb_40 kc_40 ?_
    cases hf
    exact z_iret X hK dX12_readChild_9
set_option maxHeartbeats 4000000 in
set_option maxRecDepth 100000 in
theorem M_readBranch_G_ok (l : Launch) (g : GP) : ∀ d, M_readBranch_G_IH l g d
  | 0 => ⟨fun _ _ h y hf => (nomatch (show none = some y from hf)), fun _ _ h y hf => (nomatch (show none = some y from hf))⟩
  | d + 1 => by
    have IH := M_readBranch_G_ok l g d
    refine ⟨fun l0 l1 h y hf => ?_, fun l0 l1 h y hf => ?_⟩
    · obtain ⟨hd, hf⟩ := gif (show (if 3 ≤ d then M_readBranch_b (M_readBranch_G d) d l0 l1 h else none) = some y from hf)
      exact cb_M_readBranch IH hd l0 l1 h y hf
    · obtain ⟨hd, hf⟩ := gif (show (if 3 ≤ d then M_readChild_b (M_readBranch_G d) d l0 l1 h else none) = some y from hf)
      exact cb_M_readChild IH hd l0 l1 h y hf
set_option maxHeartbeats 4000000 in
set_option maxRecDepth 100000 in
theorem c_M_readBranch {l : Launch} {g : GP} (d : Nat) (l0 l1 : Int) (h : Hp) (y : Int × Hp) (hf : M_readBranch d l0 l1 h = some y) : zM l yX12_readBranch cX12_readBranch 6 (some .int) d 0 0 g 157 h [(2, l0), (0, l1)] 157 y.2 (some (0, y.1)) := (M_readBranch_G_ok l g d).1 l0 l1 h y hf
set_option maxHeartbeats 4000000 in
set_option maxRecDepth 100000 in
theorem c_M_readChild {l : Launch} {g : GP} (d : Nat) (l0 l1 : Int) (h : Hp) (y : Int × Hp) (hf : M_readChild d l0 l1 h = some y) : zM l yX12_readChild cX12_readChild 4 (some .int) d 0 0 g 157 h [(2, l0), (0, l1)] 157 y.2 (some (0, y.1)) := (M_readBranch_G_ok l g d).2 l0 l1 h y hf
set_option maxHeartbeats 4000000 in
set_option maxRecDepth 100000 in
theorem z_M_isLettered_j62 {g : GP} {x : CX} {d : Nat} (X : zX g x RX12 cX12_isLettered 3 d) (l0 l2 s0 : Int) (h : Hp) (y : (Int × Int) ⊕ ((Unit) ⊕ (Int))) (hf : M_isLettered_j62 l0 l2 s0 h = some y) (E : (Unit) ⊕ (Int) → Prop) (hx0 : ∀ e : Unit, E (.inl e) → ZV g x 3 h 31 [] []) (hx1 : ∀ e : Int, E (.inr e) → ZV g x 3 h 69 [(1, (0, e))] []) (hk : z_sum (fun q : Int × Int => ZV g x 3 h 10 [(0, (2, l0)), (1, (0, q.1)), (2, (0, q.2))] []) E y) : ZV g x 3 h 62 [(0, (2, l0)), (2, (0, l2))] [(0, s0)] := by
  unfold M_isLettered_j62 at hf
  refine z_istore_n X dX12_isLettered_62 (by decide) (ls' := [(1, (0, s0)), (0, (2, l0)), (2, (0, l2))]) rfl ?_
  refine z_iinc X dX12_isLettered_63 2 rfl (by decide) (ls' := [(2, (0, w32 (l2 + 1))), (1, (0, s0)), (0, (2, l0))]) rfl ?_
  refine z_goto X dX12_isLettered_66 rfl ?_
  cases hf
  exact z_weak [2, 1, 0] rfl hk
set_option maxHeartbeats 4000000 in
set_option maxRecDepth 100000 in
theorem z_M_isLettered_j57 {g : GP} {x : CX} {d : Nat} (X : zX g x RX12 cX12_isLettered 3 d) (l0 l2 : Int) (h : Hp) (y : (Int × Int) ⊕ ((Unit) ⊕ (Int))) (hf : M_isLettered_j57 l0 l2 h = some y) (E : (Unit) ⊕ (Int) → Prop) (hx0 : ∀ e : Unit, E (.inl e) → ZV g x 3 h 31 [] []) (hx1 : ∀ e : Int, E (.inr e) → ZV g x 3 h 69 [(1, (0, e))] []) (hk : z_sum (fun q : Int × Int => ZV g x 3 h 10 [(0, (2, l0)), (1, (0, q.1)), (2, (0, q.2))] []) E y) : ZV g x 3 h 57 [(0, (2, l0)), (2, (0, l2))] [] := by
  unfold M_isLettered_j57 at hf
  refine z_iconst X dX12_isLettered_57 kc_1 ?_
  refine z_goto X dX12_isLettered_58 rfl ?_
  exact (z_M_isLettered_j62 X l0 l2 1 h _ hf E hx0 hx1 hk)
set_option maxHeartbeats 4000000 in
set_option maxRecDepth 100000 in
theorem z_M_isLettered_L10 {g : GP} {x : CX} {d : Nat} (X : zX g x RX12 cX12_isLettered 3 d) (l0 : Int) (h : Hp) (E : (Unit) ⊕ (Int) → Prop) (hx0 : ∀ e : Unit, E (.inl e) → ZV g x 3 h 31 [] []) (hx1 : ∀ e : Int, E (.inr e) → ZV g x 3 h 69 [(1, (0, e))] []) (l1 l2 : Int) (y : (Int × Int) ⊕ ((Unit) ⊕ (Int))) (hf : M_isLettered_L10 l0 h l1 l2 = some y) (hk : z_sum (fun q : Int × Int => ZV g x 3 h 10 [(0, (2, l0)), (1, (0, q.1)), (2, (0, q.2))] []) E y) : ZV g x 3 h 10 [(0, (2, l0)), (1, (0, l1)), (2, (0, l2))] [] := by
  unfold M_isLettered_L10 at hf
  refine z_iload_n X dX12_isLettered_10 2 rfl ?_
  refine z_bipush X dX12_isLettered_11 kb_40 kc_40 ?_
  refine z_aload_n X dX12_isLettered_13 0 rfl ?_
  obtain ⟨g2, hf⟩ := gif hf
  refine y_get X fl_RX12_92 dX12_isLettered_14 g2 ?_
  refine z_iadd X dX12_isLettered_17 ?_
  refine z_icmp_ge X dX12_isLettered_18 rfl (fun hc18 => ?_) (fun hc18 => ?_)
  · have hf := ift hc18 hf
    cases hf
    exact z_weak [1] rfl (hx1 _ hk)
  · have hf := iff' hc18 hf
    refine z_aload_n X dX12_isLettered_21 0 rfl ?_
    refine y_get X fl_RX12_98 dX12_isLettered_22 g2 ?_
    refine z_iload_n X dX12_isLettered_25 2 rfl ?_
    obtain ⟨g3, hf⟩ := gif hf
    refine y_iald X dX12_isLettered_26 g3 ?_
    refine z_iconst X dX12_isLettered_27 kc_1 ?_
    refine z_icmp_ne X dX12_isLettered_28 rfl (fun hc28 => ?_) (fun hc28 => ?_)
    · have hf := iff' hc28 hf
      refine z_iload_n X dX12_isLettered_33 1 rfl ?_
      refine z_if_ne X dX12_isLettered_34 rfl (fun hc34 => ?_) (fun hc34 => ?_)
      · have hf := iff' hc34 hf
        exact z_weak [0, 2] rfl (z_M_isLettered_j57 X l0 l2 h _ hf E hx0 hx1 hk)
      · have hf := ift hc34 hf
        refine z_aload_n X dX12_isLettered_37 0 rfl ?_
        refine y_get X fl_RX12_98 dX12_isLettered_38 g2 ?_
        refine z_iload_n X dX12_isLettered_41 2 rfl ?_
        refine y_iald X dX12_isLettered_42 g3 ?_
        refine z_iconst X dX12_isLettered_43 kc_3 ?_
        refine z_icmp_eq X dX12_isLettered_44 rfl (fun hc44 => ?_) (fun hc44 => ?_)
        · have hf := ift hc44 hf
          exact z_weak [0, 2] rfl (z_M_isLettered_j57 X l0 l2 h _ hf E hx0 hx1 hk)
        · have hf := iff' hc44 hf
          refine z_aload_n X dX12_isLettered_47 0 rfl ?_
          refine y_get X fl_RX12_98 dX12_isLettered_48 g2 ?_
          refine z_iload_n X dX12_isLettered_51 2 rfl ?_
          refine y_iald X dX12_isLettered_52 g3 ?_
          refine z_iconst X dX12_isLettered_53 kc_4 ?_
          refine z_icmp_ne X dX12_isLettered_54 rfl (fun hc54 => ?_) (fun hc54 => ?_)
          · have hf := iff' hc54 hf
            refine z_iconst X dX12_isLettered_61 kc_0 ?_
            exact z_weak [0, 2] rfl (z_M_isLettered_j62 X l0 l2 0 h _ hf E hx0 hx1 hk)
          · have hf := ift hc54 hf
            exact z_weak [0, 2] rfl (z_M_isLettered_j57 X l0 l2 h _ hf E hx0 hx1 hk)
    · have hf := ift hc28 hf
      cases hf
      exact z_weak [] rfl (hx0 _ hk)
set_option maxHeartbeats 4000000 in
set_option maxRecDepth 100000 in
theorem c_M_isLettered {l : Launch} {g : GP} (d : Nat) (hd : 0 ≤ d) (l0 : Int) (h : Hp) (y : Int) (hf : M_isLettered l0 h = some y) : zM l yX12_isLettered cX12_isLettered 3 (some .boolean) d 0 0 g 157 h [(2, l0)] 157 h (some (0, y)) := by
  refine z_start (by decide) (Nat.le_of_ble_eq_true rfl) (fun x X hK _ _ _ hl => ?_)
  show ZV g x 3 h 0 [(0, (2, l0))] []
  unfold M_isLettered at hf
  refine z_iconst X dX12_isLettered_0 kc_0 ?_
  refine z_istore_n X dX12_isLettered_1 (by decide) (ls' := [(1, (0, 0)), (0, (2, l0))]) rfl ?_
  refine z_bipush X dX12_isLettered_2 kb_40 kc_40 ?_
  refine z_aload_n X dX12_isLettered_4 1 rfl ?_
  obtain ⟨g1, hf⟩ := gif hf
  refine y_get X fl_RX12_95 dX12_isLettered_5 g1 ?_
  refine z_iadd X dX12_isLettered_8 ?_
  refine z_istore_n X dX12_isLettered_9 (by decide) (ls' := [(2, (0, w32 (40 + (h l0 29)))), (1, (0, 0)), (0, (2, l0))]) rfl ?_
  obtain ⟨q10, hq10, hf⟩ := obE hf
  have hx10_0 : ∀ e31 : Unit, (.inl e31 : (Unit) ⊕ (Int)) = q10 → ZV g x 3 h 31 [] [] := by
    intro e31 hq
    subst hq
    dsimp only at hf
    refine z_iconst X dX12_isLettered_31 kc_1 ?_
    cases hf
    exact z_zret X hK (Or.inr rfl) dX12_isLettered_32
  have hx10_1 : ∀ e69 : Int, (.inr e69 : (Unit) ⊕ (Int)) = q10 → ZV g x 3 h 69 [(1, (0, e69))] [] := by
    intro e69 hq
    subst hq
    dsimp only at hf
    refine z_iload_n X dX12_isLettered_69 0 rfl ?_
    refine z_if_ne X dX12_isLettered_70 rfl (fun hc70 => ?_) (fun hc70 => ?_)
    · rw [if_neg hc70] at hf
      refine z_iconst X dX12_isLettered_77 kc_0 ?_
      cases hf
      exact z_zret X hK (Or.inl rfl) dX12_isLettered_78
    · rw [if_pos hc70] at hf
      refine z_iconst X dX12_isLettered_73 kc_1 ?_
      refine z_goto X dX12_isLettered_74 rfl ?_
      cases hf
      exact z_zret X hK (Or.inr rfl) dX12_isLettered_78
  exact z_weak [2, 1, 0] rfl (z_loop (Z := (fun q : Int × Int => ZV g x 3 h 10 [(0, (2, l0)), (1, (0, q.1)), (2, (0, q.2))] [])) (E := fun q => q = q10) (fun q y hb hk => z_M_isLettered_L10 X l0 h (fun q => q = q10) hx10_0 hx10_1 q.1 q.2 y hb hk) LN (0, w32 (40 + (h l0 29))) q10 hq10 rfl)
