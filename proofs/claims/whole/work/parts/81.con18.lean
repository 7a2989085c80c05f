set_option maxHeartbeats 4000000 in
set_option maxRecDepth 100000 in
theorem z_M_out_j53 {g : GP} {x : CX} {d : Nat} (X : zX g x RX12 cX12_out 4 (d + 1)) (hd : 1 ≤ d) (l0 l3 s0 s1 : Int) (h : Hp) (y : Int × Hp) (hf : M_out_j53 l0 l3 s0 s1 h = some y) (hK : zE g x (some .int) 0 0 157 y.2 (some (0, y.1))) : ZV g x 4 h 53 [(0, (2, l0)), (3, (0, l3))] [(0, s0), (2, s1)] := by
  unfold M_out_j53 at hf
  obtain ⟨g2, hf⟩ := gif hf
  refine y_put X fl_RX12_26 dX12_out_53 g2 rfl (by decide) ?_
  let h_1 : Hp := hput h s1 3 s0
  refine z_iload_n X dX12_out_56 1 rfl ?_
  refine z_aload_n X dX12_out_57 0 rfl ?_
  obtain ⟨g3, hf⟩ := gif hf
  refine y_get X fl_RX12_26 dX12_out_58 g3 ?_
  refine z_icmp_ne X dX12_out_61 rfl (fun hc61 => ?_) (fun hc61 => ?_)
  · rw [if_neg hc61] at hf
    refine z_iconst X dX12_out_68 kc_1 ?_
    cases hf
    exact z_iret X hK dX12_out_69
  · rw [if_pos hc61] at hf
    refine z_iconst X dX12_out_64 kc_0 ?_
    refine z_goto X dX12_out_65 rfl ?_
    cases hf
    exact z_iret X hK dX12_out_69
set_option maxHeartbeats 4000000 in
set_option maxRecDepth 100000 in
theorem c_M_out {l : Launch} {g : GP} (d : Nat) (hd : 2 ≤ d) (l0 l1 l2 : Int) (h : Hp) (y : Int × Hp) (hf : M_out l0 l1 l2 h = some y) : zM l yX12_out cX12_out 4 (some .int) d 0 0 g 157 h [(2, l0), (0, l1), (0, l2)] 157 y.2 (some (0, y.1)) := by
  obtain ⟨d, rfl⟩ : ∃ k, d = k + 1 := ⟨d - 1, by omega⟩
  replace hd : 1 ≤ d := Nat.le_of_succ_le_succ hd
  refine z_start (by decide) (Nat.le_of_ble_eq_true rfl) (fun x X hK _ _ _ hl => ?_)
  show ZV g x 4 h 0 [(0, (2, l0)), (1, (0, l1)), (2, (0, l2))] []
  unfold M_out at hf
  refine z_aload_n X dX12_out_0 0 rfl ?_
  refine z_iload_n X dX12_out_1 1 rfl ?_
  obtain ⟨g1, hf⟩ := gif hf
  obtain ⟨r2, hr2, hf⟩ := obE hf
  refine y_V1 X cv_RX12_18 dX12_out_2 g1 (c_M_isTree d (Nat.le_trans (by decide) hd) l0 l1 h r2 hr2) (as := [(0, l1)]) rfl rfl (Nat.le_of_ble_eq_true rfl) z00 ?_
  refine z_if_eq X dX12_out_5 rfl (fun hc5 => ?_) (fun hc5 => ?_)
  · have hf := ift hc5 hf
    refine z_bipush X dX12_out_18 kb_m2 kc_m2 ?_
    cases hf
    exact z_iret X hK dX12_out_20
  · have hf := iff' hc5 hf
    refine z_iload_n X dX12_out_8 2 rfl ?_
    refine z_i2l X dX12_out_9 ?_
    refine z_lconst0 X dX12_out_10 ?_
    refine z_lconst1 X dX12_out_11 ?_
    obtain ⟨r12, hr12, hf⟩ := obE hf
    refine y_S1 X cs_RX12_14 dX12_out_12 (c_M_in d (Nat.zero_le _) l2 0 1 h r12 hr12) (as := [(1, l2), (1, 0), (1, 1)]) rfl rfl (Nat.le_of_ble_eq_true rfl) z00 ?_
    refine z_if_ne X dX12_out_15 rfl (fun hc15 => ?_) (fun hc15 => ?_)
    · have hf := iff' hc15 hf
      refine z_aload_n X dX12_out_21 0 rfl ?_
      refine y_get X fl_RX12_26 dX12_out_22 g1 ?_
      refine z_istore_n X dX12_out_25 (by decide) (ls' := [(3, (0, h l0 3)), (0, (2, l0)), (1, (0, l1)), (2, (0, l2))]) rfl ?_
      refine z_aload_n X dX12_out_26 1 rfl ?_
      refine z_iload_n X dX12_out_27 3 rfl ?_
      refine z_iconst X dX12_out_28 kc_1 ?_
      refine z_icmp_ne X dX12_out_29 rfl (fun hc29 => ?_) (fun hc29 => ?_)
      · rw [if_neg hc29] at hf
        refine z_aload_n X dX12_out_43 1 rfl ?_
        refine y_get X fl_RX12_26 dX12_out_44 g1 ?_
        refine z_iconst X dX12_out_47 kc_1 ?_
        refine z_iload_n X dX12_out_48 2 rfl ?_
        refine z_ishl X dX12_out_49 ?_
        refine z_iconst X dX12_out_50 kc_m1 ?_
        refine z_ixor X dX12_out_51 ?_
        refine z_iand X dX12_out_52 ?_
        exact z_weak [1, 0] rfl (z_M_out_j53 X hd l0 (h l0 3) (i_and (h l0 3) (i_xor (i_shl 1 l1) ((-1)))) l0 h _ hf hK)
      · rw [if_pos hc29] at hf
        refine z_aload_n X dX12_out_32 1 rfl ?_
        refine y_get X fl_RX12_26 dX12_out_33 g1 ?_
        refine z_iconst X dX12_out_36 kc_1 ?_
        refine z_iload_n X dX12_out_37 2 rfl ?_
        refine z_ishl X dX12_out_38 ?_
        refine z_ior X dX12_out_39 ?_
        refine z_goto X dX12_out_40 rfl ?_
        exact z_weak [1, 0] rfl (z_M_out_j53 X hd l0 (h l0 3) (i_or (h l0 3) (i_shl 1 l1)) l0 h _ hf hK)
    · have hf := ift hc15 hf
      refine z_bipush X dX12_out_18 kb_m2 kc_m2 ?_
      cases hf
      exact z_iret X hK dX12_out_20
set_option maxHeartbeats 4000000 in
set_option maxRecDepth 100000 in
theorem c_M_marks {l : Launch} {g : GP} (d : Nat) (hd : 3 ≤ d) (l0 l1 l2 l3 : Int) (h : Hp) (y : Int × Hp) (hf : M_marks l0 l1 l2 l3 h = some y) : zM l yX12_marks cX12_marks 5 (some .int) d 0 0 g 157 h [(2, l0), (0, l1), (0, l2), (0, l3)] 157 y.2 (some (0, y.1)) := by
  obtain ⟨d, rfl⟩ : ∃ k, d = k + 1 := ⟨d - 1, by omega⟩
  replace hd : 2 ≤ d := Nat.le_of_succ_le_succ hd
  refine z_start (by decide) (Nat.le_of_ble_eq_true rfl) (fun x X hK _ _ _ hl => ?_)
  show ZV g x 5 h 0 [(0, (2, l0)), (1, (0, l1)), (2, (0, l2)), (3, (0, l3))] []
  unfold M_marks at hf
  refine z_aload_n X dX12_marks_0 0 rfl ?_
  refine z_iload_n X dX12_marks_1 1 rfl ?_
  refine z_iload_n X dX12_marks_2 2 rfl ?_
  obtain ⟨g1, hf⟩ := gif hf
  obtain ⟨r3, hr3, hf⟩ := obE hf
  refine y_V1 X cv_RX12_364 dX12_marks_3 g1 (c_M_isNode d (Nat.le_trans (by decide) hd) l0 l1 l2 h r3 hr3) (as := [(0, l1), (0, l2)]) rfl rfl (Nat.le_of_ble_eq_true rfl) z00 ?_
  refine z_if_eq X dX12_marks_6 rfl (fun hc6 => ?_) (fun hc6 => ?_)
  · have hf := ift hc6 hf
    refine z_bipush X dX12_marks_37 kb_m2 kc_m2 ?_
    cases hf
    exact z_iret X hK dX12_marks_39
  · have hf := iff' hc6 hf
    refine z_iload_n X dX12_marks_9 3 rfl ?_
    refine z_i2l X dX12_marks_10 ?_
    refine z_lconst0 X dX12_marks_11 ?_
    refine z_ldc2 X kj_RX12_371 kl_2 dX12_marks_12 ?_
    obtain ⟨r15, hr15, hf⟩ := obE hf
    refine y_S1 X cs_RX12_14 dX12_marks_15 (c_M_in d (Nat.zero_le _) l3 0 2 h r15 hr15) (as := [(1, l3), (1, 0), (1, 2)]) rfl rfl (Nat.le_of_ble_eq_true rfl) z00 ?_
    refine z_if_eq X dX12_marks_18 rfl (fun hc18 => ?_) (fun hc18 => ?_)
    · have hf := ift hc18 hf
      refine z_bipush X dX12_marks_37 kb_m2 kc_m2 ?_
      cases hf
      exact z_iret X hK dX12_marks_39
    · have hf := iff' hc18 hf
      refine z_aload_n X dX12_marks_21 0 rfl ?_
      refine y_get X fl_RX12_98 dX12_marks_22 g1 ?_
      refine z_aload_n X dX12_marks_25 0 rfl ?_
      refine y_get X fl_RX12_7 dX12_marks_26 g1 ?_
      refine z_iload_n X dX12_marks_29 1 rfl ?_
      obtain ⟨g2, hf⟩ := gif hf
      refine y_iald X dX12_marks_30 g2 ?_
      refine z_iload_n X dX12_marks_31 2 rfl ?_
      refine z_iadd X dX12_marks_32 ?_
      obtain ⟨g3, hf⟩ := gif hf
      refine y_iald X dX12_marks_33 g3 ?_
      refine z_if_eq X dX12_marks_34 rfl (fun hc34 => ?_) (fun hc34 => ?_)
      · have hf := ift hc34 hf
        refine z_aload_n X dX12_marks_40 0 rfl ?_
        refine y_get X fl_RX12_104 dX12_marks_41 g1 ?_
        refine z_aload_n X dX12_marks_44 0 rfl ?_
        refine y_get X fl_RX12_7 dX12_marks_45 g1 ?_
        refine z_iload_n X dX12_marks_48 1 rfl ?_
        refine y_iald X dX12_marks_49 g2 ?_
        refine z_iload_n X dX12_marks_50 2 rfl ?_
        refine z_iadd X dX12_marks_51 ?_
        obtain ⟨g4, hf⟩ := gif hf
        refine y_iald X dX12_marks_52 g4 ?_
        refine z_istore X dX12_marks_53 (by decide) (ls' := [(4, (0, h (h l0 7) (w32 ((h (h l0 4) l1) + l2)))), (0, (2, l0)), (1, (0, l1)), (2, (0, l2)), (3, (0, l3))]) rfl ?_
        refine z_aload_n X dX12_marks_55 1 rfl ?_
        refine y_get X fl_RX12_104 dX12_marks_56 g1 ?_
        refine z_aload_n X dX12_marks_59 1 rfl ?_
        refine y_get X fl_RX12_7 dX12_marks_60 g1 ?_
        refine z_iload_n X dX12_marks_63 2 rfl ?_
        refine y_iald X dX12_marks_64 g2 ?_
        refine z_iload_n X dX12_marks_65 3 rfl ?_
        refine z_iadd X dX12_marks_66 ?_
        refine z_iload_n X dX12_marks_67 4 rfl ?_
        refine y_iast X dX12_marks_68 g4 ?_
        let h_1 : Hp := hput h (h l0 7) (w32 ((h (h l0 4) l1) + l2)) l3
        refine z_iload X dX12_marks_69 0 rfl ?_
        cases hf
        exact z_iret X hK dX12_marks_71
      · have hf := iff' hc34 hf
        refine z_bipush X dX12_marks_37 kb_m2 kc_m2 ?_
        cases hf
        exact z_iret X hK dX12_marks_39
set_option maxHeartbeats 4000000 in
set_option maxRecDepth 100000 in
theorem c_M_toldAs {l : Launch} {g : GP} (d : Nat) (hd : 0 ≤ d) (l0 : Int) (h : Hp) (y : Int) (hf : M_toldAs l0 = some y) : zM l yX12_toldAs cX12_toldAs 2 (some .long) d 0 0 g 157 h [(1, l0)] 157 h (some (1, y)) := by
  refine z_start (by decide) (Nat.le_of_ble_eq_true rfl) (fun x X hK _ _ _ hl => ?_)
  show ZV g x 2 h 0 [(0, (1, l0))] []
  unfold M_toldAs at hf
  refine z_lload_n X dX12_toldAs_0 0 rfl ?_
  refine z_ldc2 X kj_RX12_263 kl_1000000000000000 dX12_toldAs_1 ?_
  refine z_l_le X dX12_toldAs_4 dX12_toldAs_5 rfl (fun hc4 => ?_) (fun hc4 => ?_)
  · rw [if_pos hc4] at hf
    refine z_lload_n X dX12_toldAs_14 0 rfl ?_
    cases hf
    exact z_lret X hK dX12_toldAs_15
  · rw [if_neg hc4] at hf
    refine z_ldc2 X kj_RX12_373 kl_m3 dX12_toldAs_8 ?_
    refine z_goto X dX12_toldAs_11 rfl ?_
    cases hf
    exact z_lret X hK dX12_toldAs_15
set_option maxHeartbeats 4000000 in
set_option maxRecDepth 100000 in
theorem z_M_isSpan_j21 {g : GP} {x : CX} {d : Nat} (X : zX g x RX12 cX12_isSpan 3 d) (h : Hp) (y : Int) (hf : M_isSpan_j21 h = some y) (hK : zE g x (some .boolean) 0 0 157 h (some (0, y))) : ZV g x 3 h 21 [] [] := by
  unfold M_isSpan_j21 at hf
  refine z_iconst X dX12_isSpan_21 kc_0 ?_
  cases hf
  exact z_zret X hK (Or.inl rfl) dX12_isSpan_22
set_option maxHeartbeats 4000000 in
set_option maxRecDepth 100000 in
theorem c_M_isSpan {l : Launch} {g : GP} (d : Nat) (hd : 0 ≤ d) (l0 l1 l2 : Int) (h : Hp) (y : Int) (hf : M_isSpan l0 l1 l2 h = some y) : zM l yX12_isSpan cX12_isSpan 3 (some .boolean) d 0 0 g 157 h [(2, l0), (0, l1), (0, l2)] 157 h (some (0, y)) := by
  refine z_start (by decide) (Nat.le_of_ble_eq_true rfl) (fun x X hK _ _ _ hl => ?_)
  show ZV g x 3 h 0 [(0, (2, l0)), (1, (0, l1)), (2, (0, l2))] []
  unfold M_isSpan at hf
  refine z_iload_n X dX12_isSpan_0 1 rfl ?_
  refine z_if_lt X dX12_isSpan_1 rfl (fun hc1 => ?_) (fun hc1 => ?_)
  · have hf := ift hc1 hf
    exact z_weak [] rfl (z_M_isSpan_j21 X  h _ hf hK)
  · have hf := iff' hc1 hf
    refine z_iload_n X dX12_isSpan_4 1 rfl ?_
    refine z_iload_n X dX12_isSpan_5 2 rfl ?_
    refine z_icmp_gt X dX12_isSpan_6 rfl (fun hc6 => ?_) (fun hc6 => ?_)
    · have hf := ift hc6 hf
      exact z_weak [] rfl (z_M_isSpan_j21 X  h _ hf hK)
    · have hf := iff' hc6 hf
      refine z_iload_n X dX12_isSpan_9 2 rfl ?_
      refine z_aload_n X dX12_isSpan_10 0 rfl ?_
      obtain ⟨g1, hf⟩ := gif hf
      refine y_get X fl_RX12_171 dX12_isSpan_11 g1 ?_
      refine z_icmp_gt X dX12_isSpan_14 rfl (fun hc14 => ?_) (fun hc14 => ?_)
      · have hf := ift hc14 hf
        exact z_weak [] rfl (z_M_isSpan_j21 X  h _ hf hK)
      · have hf := iff' hc14 hf
        refine z_iconst X dX12_isSpan_17 kc_1 ?_
        refine z_goto X dX12_isSpan_18 rfl ?_
        cases hf
        exact z_zret X hK (Or.inr rfl) dX12_isSpan_22
set_option maxHeartbeats 4000000 in
set_option maxRecDepth 100000 in
theorem z_M_isGap_j30 {g : GP} {x : CX} {d : Nat} (X : zX g x RX12 cX12_isGap 5 (d + 1)) (hd : 0 ≤ d) (h : Hp) (y : Int) (hf : M_isGap_j30 h = some y) (hK : zE g x (some .boolean) 0 0 157 h (some (0, y))) : ZV g x 5 h 30 [] [] := by
  unfold M_isGap_j30 at hf
  refine z_iconst X dX12_isGap_30 kc_0 ?_
  cases hf
  exact z_zret X hK (Or.inl rfl) dX12_isGap_31
set_option maxHeartbeats 4000000 in
set_option maxRecDepth 100000 in
theorem c_M_isGap {l : Launch} {g : GP} (d : Nat) (hd : 1 ≤ d) (l0 l1 l2 l3 l4 : Int) (h : Hp) (y : Int) (hf : M_isGap l0 l1 l2 l3 l4 h = some y) : zM l yX12_isGap cX12_isGap 5 (some .boolean) d 0 0 g 157 h [(2, l0), (0, l1), (0, l2), (0, l3), (0, l4)] 157 h (some (0, y)) := by
  obtain ⟨d, rfl⟩ : ∃ k, d = k + 1 := ⟨d - 1, by omega⟩
  replace hd : 0 ≤ d := Nat.le_of_succ_le_succ hd
  refine z_start (by decide) (Nat.le_of_ble_eq_true rfl) (fun x X hK _ _ _ hl => ?_)
  show ZV g x 5 h 0 [(0, (2, l0)), (1, (0, l1)), (2, (0, l2)), (3, (0, l3)), (4, (0, l4))] []
  unfold M_isGap at hf
  refine z_aload_n X dX12_isGap_0 0 rfl ?_
  refine z_iload_n X dX12_isGap_1 1 rfl ?_
  refine z_iload_n X dX12_isGap_2 2 rfl ?_
  obtain ⟨g1, hf⟩ := gif hf
  obtain ⟨r3, hr3, hf⟩ := obE hf
  refine y_V1 X cv_RX12_375 dX12_isGap_3 g1 (c_M_isSpan d (Nat.zero_le _) l0 l1 l2 h r3 hr3) (as := [(0, l1), (0, l2)]) rfl rfl (Nat.le_of_ble_eq_true rfl) z00 ?_
  refine z_if_eq X dX12_isGap_6 rfl (fun hc6 => ?_) (fun hc6 => ?_)
  · have hf := ift hc6 hf
    exact z_weak [] rfl (z_M_isGap_j30 X hd  h _ hf hK)
  · have hf := iff' hc6 hf
    refine z_iload_n X dX12_isGap_9 1 rfl ?_
    refine z_iload_n X dX12_isGap_10 3 rfl ?_
    refine z_icmp_gt X dX12_isGap_11 rfl (fun hc11 => ?_) (fun hc11 => ?_)
    · have hf := ift hc11 hf
      exact z_weak [] rfl (z_M_isGap_j30 X hd  h _ hf hK)
    · have hf := iff' hc11 hf
      refine z_iload_n X dX12_isGap_14 3 rfl ?_
      refine z_iload X dX12_isGap_15 4 rfl ?_
      refine z_icmp_gt X dX12_isGap_17 rfl (fun hc17 => ?_) (fun hc17 => ?_)
      · have hf := ift hc17 hf
        exact z_weak [] rfl (z_M_isGap_j30 X hd  h _ hf hK)
      · have hf := iff' hc17 hf
        refine z_iload X dX12_isGap_20 4 rfl ?_
        refine z_iload_n X dX12_isGap_22 2 rfl ?_
        refine z_icmp_gt X dX12_isGap_23 rfl (fun hc23 => ?_) (fun hc23 => ?_)
        · have hf := ift hc23 hf
          exact z_weak [] rfl (z_M_isGap_j30 X hd  h _ hf hK)
        · have hf := iff' hc23 hf
          refine z_iconst X dX12_isGap_26 kc_1 ?_
          refine z_goto X dX12_isGap_27 rfl ?_
          cases hf
          exact z_zret X hK (Or.inr rfl) dX12_isGap_31
set_option maxHeartbeats 4000000 in
set_option maxRecDepth 100000 in
theorem z_M_over_j82 {g : GP} {x : CX} {d : Nat} (X : zX g x RX12 cX12_over 9 (d + 1)) (hd : 2 ≤ d) (l0 l1 l2 l3 l4 l5 l6 l7 s0 : Int) (h : Hp) (y : Int × Hp) (hf : M_over_j82 (d + 1) l0 l1 l2 l3 l4 l5 l6 l7 s0 h = some y) (hK : zE g x (some .long) 0 0 157 y.2 (some (1, y.1))) : ZV g x 9 h 82 [(0, (2, l0)), (1, (0, l1)), (2, (0, l2)), (3, (0, l3)), (4, (0, l4)), (5, (0, l5)), (6, (0, l6)), (7, (0, l7))] [(0, s0)] := by
  unfold M_over_j82 at hf
  refine z_istore X dX12_over_82 (by decide) (ls' := [(8, (0, s0)), (0, (2, l0)), (1, (0, l1)), (2, (0, l2)), (3, (0, l3)), (4, (0, l4)), (5, (0, l5)), (6, (0, l6)), (7, (0, l7))]) rfl ?_
  refine z_iload X dX12_over_84 0 rfl ?_
  refine z_if_ne X dX12_over_86 rfl (fun hc86 => ?_) (fun hc86 => ?_)
  · have hf := iff' hc86 hf
    refine z_aload_n X dX12_over_93 1 rfl ?_
    refine z_iload_n X dX12_over_94 2 rfl ?_
    obtain ⟨g4, hf⟩ := gif hf
    obtain ⟨r95, hr95, hf⟩ := obE hf
    refine y_V1 X cv_RX12_384 dX12_over_95 g4 (c_M_isOut d (Nat.zero_le _) l0 l1 h r95 hr95) (as := [(0, l1)]) rfl rfl (Nat.le_of_ble_eq_true rfl) z00 ?_
    refine z_if_eq X dX12_over_98 rfl (fun hc98 => ?_) (fun hc98 => ?_)
    · have hf := ift hc98 hf
      refine z_aload_n X dX12_over_103 1 rfl ?_
      refine z_iconst X dX12_over_104 kc_0 ?_
      obtain ⟨r105, hr105, hf⟩ := obE hf
      refine y_V0 X cv_RX12_387 dX12_over_105 g4 (c_M_looksAt d (Nat.le_trans (by decide) hd) l0 0 h r105 hr105) (as := [(0, 0)]) rfl rfl (Nat.le_of_ble_eq_true rfl) z00 ?_
      refine z_aload_n X dX12_over_108 1 rfl ?_
      refine z_iload_n X dX12_over_109 4 rfl ?_
      refine z_aload_n X dX12_over_110 1 rfl ?_
      refine y_get X fl_RX12_7 dX12_over_111 g4 ?_
      refine z_iload_n X dX12_over_114 2 rfl ?_
      obtain ⟨g5, hf⟩ := gif hf
      refine y_iald X dX12_over_115 g5 ?_
      refine z_iload_n X dX12_over_116 3 rfl ?_
      refine z_iadd X dX12_over_117 ?_
      refine z_iload X dX12_over_118 5 rfl ?_
      refine z_iload X dX12_over_120 6 rfl ?_
      refine z_iload X dX12_over_122 7 rfl ?_
      refine z_iload X dX12_over_124 8 rfl ?_
      obtain ⟨r126, hr126, hf⟩ := obE hf
      refine y_V1 X cv_RX12_292 dX12_over_126 g4 (c_M_waysOf d l0 l3 (w32 ((r105 (r105 l0 4) l1) + l2)) l4 l5 l6 l7 r105 r126 hr126) (as := [(0, l3), (0, w32 ((r105 (r105 l0 4) l1) + l2)), (0, l4), (0, l5), (0, l6), (0, l7)]) rfl rfl (Nat.le_of_ble_eq_true rfl) z00 ?_
      obtain ⟨r129, hr129, hf⟩ := obE hf
      refine y_S1 X cs_RX12_390 dX12_over_129 (c_M_toldAs d (Nat.zero_le _) r126.1 r126.2 r129 hr129) (as := [(1, r126.1)]) rfl rfl (Nat.le_of_ble_eq_true rfl) z00 ?_
      cases hf
      exact z_lret X hK dX12_over_132
    · have hf := iff' hc98 hf
      refine z_lconst0 X dX12_over_101 ?_
      cases hf
      exact z_lret X hK dX12_over_102
  · have hf := ift hc86 hf
    refine z_ldc2 X kj_RX12_378 kl_m2 dX12_over_89 ?_
    cases hf
    exact z_lret X hK dX12_over_92
set_option maxHeartbeats 4000000 in
set_option maxRecDepth 100000 in
theorem z_M_over_j81 {g : GP} {x : CX} {d : Nat} (X : zX g x RX12 cX12_over 9 (d + 1)) (hd : 2 ≤ d) (l0 l1 l2 l3 l4 l5 l6 l7 : Int) (h : Hp) (y : Int × Hp) (hf : M_over_j81 (d + 1) l0 l1 l2 l3 l4 l5 l6 l7 h = some y) (hK : zE g x (some .long) 0 0 157 y.2 (some (1, y.1))) : ZV g x 9 h 81 [(0, (2, l0)), (1, (0, l1)), (2, (0, l2)), (3, (0, l3)), (4, (0, l4)), (5, (0, l5)), (6, (0, l6)), (7, (0, l7))] [] := by
  unfold M_over_j81 at hf
  refine z_iconst X dX12_over_81 kc_0 ?_
  exact (z_M_over_j82 X hd l0 l1 l2 l3 l4 l5 l6 l7 0 h _ hf hK)
set_option maxHeartbeats 4000000 in
set_option maxRecDepth 100000 in
theorem c_M_over {l : Launch} {g : GP} (d : Nat) (hd : 3 ≤ d) (l0 l1 l2 l3 l4 l5 l6 l7 : Int) (h : Hp) (y : Int × Hp) (hf : M_over d l0 l1 l2 l3 l4 l5 l6 l7 h = some y) : zM l yX12_over cX12_over 9 (some .long) d 0 0 g 157 h [(2, l0), (0, l1), (0, l2), (0, l3), (0, l4), (0, l5), (0, l6), (0, l7)] 157 y.2 (some (1, y.1)) := by
  obtain ⟨d, rfl⟩ : ∃ k, d = k + 1 := ⟨d - 1, by omega⟩
  replace hd : 2 ≤ d := Nat.le_of_succ_le_succ hd
  refine z_start (by decide) (Nat.le_of_ble_eq_true rfl) (fun x X hK _ _ _ hl => ?_)
  show ZV g x 9 h 0 [(0, (2, l0)), (1, (0, l1)), (2, (0, l2)), (3, (0, l3)), (4, (0, l4)), (5, (0, l5)), (6, (0, l6)), (7, (0, l7))] []
  unfold M_over at hf
  refine z_aload_n X dX12_over_0 0 rfl ?_
  refine z_iload_n X dX12_over_1 1 rfl ?_
  refine z_iload_n X dX12_over_2 2 rfl ?_
  obtain ⟨g1, hf⟩ := gif hf
  obtain ⟨r3, hr3, hf⟩ := obE hf
  refine y_V1 X cv_RX12_364 dX12_over_3 g1 (c_M_isNode d (Nat.le_trans (by decide) hd) l0 l1 l2 h r3 hr3) (as := [(0, l1), (0, l2)]) rfl rfl (Nat.le_of_ble_eq_true rfl) z00 ?_
  refine z_if_eq X dX12_over_6 rfl (fun hc6 => ?_) (fun hc6 => ?_)
  · have hf := ift hc6 hf
    refine z_ldc2 X kj_RX12_378 kl_m2 dX12_over_19 ?_
    cases hf
    exact z_lret X hK dX12_over_22
  · have hf := iff' hc6 hf
    refine z_iload_n X dX12_over_9 3 rfl ?_
    refine z_i2l X dX12_over_10 ?_
    refine z_lconst0 X dX12_over_11 ?_
    refine z_lconst1 X dX12_over_12 ?_
    obtain ⟨r13, hr13, hf⟩ := obE hf
    refine y_S1 X cs_RX12_14 dX12_over_13 (c_M_in d (Nat.zero_le _) l3 0 1 h r13 hr13) (as := [(1, l3), (1, 0), (1, 1)]) rfl rfl (Nat.le_of_ble_eq_true rfl) z00 ?_
    refine z_if_ne X dX12_over_16 rfl (fun hc16 => ?_) (fun hc16 => ?_)
    · have hf := iff' hc16 hf
      refine z_aload_n X dX12_over_23 0 rfl ?_
      refine y_get X fl_RX12_167 dX12_over_24 g1 ?_
      refine z_aload_n X dX12_over_27 0 rfl ?_
      refine y_get X fl_RX12_7 dX12_over_28 g1 ?_
      refine z_iload_n X dX12_over_31 1 rfl ?_
      obtain ⟨g2, hf⟩ := gif hf
      refine y_iald X dX12_over_32 g2 ?_
      refine z_iload_n X dX12_over_33 2 rfl ?_
      refine z_iadd X dX12_over_34 ?_
      obtain ⟨g3, hf⟩ := gif hf
      refine y_zald X dX12_over_35 g3 ?_
      refine z_if_eq X dX12_over_36 rfl (fun hc36 => ?_) (fun hc36 => ?_)
      · have hf := ift hc36 hf
        refine z_aload_n X dX12_over_54 0 rfl ?_
        refine z_iload X dX12_over_55 4 rfl ?_
        refine z_iload X dX12_over_57 5 rfl ?_
        obtain ⟨r59, hr59, hf⟩ := obE hf
        refine y_V1 X cv_RX12_375 dX12_over_59 g1 (c_M_isSpan d (Nat.zero_le _) l0 l4 l5 h r59 hr59) (as := [(0, l4), (0, l5)]) rfl rfl (Nat.le_of_ble_eq_true rfl) z00 ?_
        refine z_if_eq X dX12_over_62 rfl (fun hc62 => ?_) (fun hc62 => ?_)
        · have hf := ift hc62 hf
          exact (z_M_over_j81 X hd l0 l1 l2 l3 l4 l5 l6 l7 h _ hf hK)
        · have hf := iff' hc62 hf
          refine z_iload X dX12_over_65 6 rfl ?_
          refine z_iconst X dX12_over_67 kc_m1 ?_
          refine z_icmp_ne X dX12_over_68 rfl (fun hc68 => ?_) (fun hc68 => ?_)
          · have hf := iff' hc68 hf
            exact (z_M_over_j81 X hd l0 l1 l2 l3 l4 l5 l6 l7 h _ hf hK)
          · have hf := ift hc68 hf
            refine z_iload X dX12_over_71 7 rfl ?_
            refine z_iconst X dX12_over_73 kc_m1 ?_
            refine z_icmp_ne X dX12_over_74 rfl (fun hc74 => ?_) (fun hc74 => ?_)
            · have hf := iff' hc74 hf
              exact (z_M_over_j81 X hd l0 l1 l2 l3 l4 l5 l6 l7 h _ hf hK)
            · have hf := ift hc74 hf
              refine z_iconst X dX12_over_77 kc_1 ?_
              refine z_goto X dX12_over_78 rfl ?_
              exact (z_M_over_j82 X hd l0 l1 l2 l3 l4 l5 l6 l7 1 h _ hf hK)
      · have hf := iff' hc36 hf
        refine z_aload_n X dX12_over_39 0 rfl ?_
        refine z_iload X dX12_over_40 4 rfl ?_
        refine z_iload X dX12_over_42 5 rfl ?_
        refine z_iload X dX12_over_44 6 rfl ?_
        refine z_iload X dX12_over_46 7 rfl ?_
        obtain ⟨r48, hr48, hf⟩ := obE hf
        refine y_V1 X cv_RX12_380 dX12_over_48 g1 (c_M_isGap d (Nat.le_trans (by decide) hd) l0 l4 l5 l6 l7 h r48 hr48) (as := [(0, l4), (0, l5), (0, l6), (0, l7)]) rfl rfl (Nat.le_of_ble_eq_true rfl) z00 ?_
        refine z_goto X dX12_over_51 rfl ?_
        exact (z_M_over_j82 X hd l0 l1 l2 l3 l4 l5 l6 l7 r48 h _ hf hK)
    · have hf := ift hc16 hf
      refine z_ldc2 X kj_RX12_378 kl_m2 dX12_over_19 ?_
      cases hf
      exact z_lret X hK dX12_over_22
set_option maxHeartbeats 4000000 in
set_option maxRecDepth 100000 in
theorem z_M_items_j146 {g : GP} {x : CX} {d : Nat} (X : zX g x RX12 cX12_items 5 (d + 1)) (hd : 1 ≤ d) (l0 l1 l2 l3 l4 : Int) (h : Hp) (y : (Int × Int × Hp) ⊕ (Int × Hp)) (hf : M_items_j146 (d + 1) l0 l1 l2 l3 l4 h = some y) (E : Int × Hp → Prop) (hx0 : ∀ e : Int × Hp, E (e) → ZV g x 5 e.2 152 [(0, (2, l0)), (1, (0, l1)), (2, (0, e.1)), (3, (0, l3))] []) (hk : z_sum (fun q : Int × Int × Hp => ZV g x 5 q.2.2 49 [(0, (2, l0)), (1, (0, l1)), (2, (0, q.1)), (3, (0, l3)), (4, (0, q.2.1))] []) E y) : ZV g x 5 h 146 [(0, (2, l0)), (1, (0, l1)), (2, (0, l2)), (3, (0, l3)), (4, (0, l4))] [] := by
  unfold M_items_j146 at hf
  refine z_iinc X dX12_items_146 4 rfl (by decide) (ls' := [(4, (0, w32 (l4 + 1))), (0, (2, l0)), (1, (0, l1)), (2, (0, l2)), (3, (0, l3))]) rfl ?_
  refine z_goto X dX12_items_149 rfl ?_
  cases hf
  exact z_weak [1, 2, 3, 4, 0] rfl hk
set_option maxHeartbeats 4000000 in
set_option maxRecDepth 100000 in
theorem z_M_items_j144 {g : GP} {x : CX} {d : Nat} (X : zX g x RX12 cX12_items 5 (d + 1)) (hd : 1 ≤ d) (l0 l1 l3 l4 s0 s1 : Int) (h : Hp) (y : (Int × Int × Hp) ⊕ (Int × Hp)) (hf : M_items_j144 (d + 1) l0 l1 l3 l4 s0 s1 h = some y) (E : Int × Hp → Prop) (hx0 : ∀ e : Int × Hp, E (e) → ZV g x 5 e.2 152 [(0, (2, l0)), (1, (0, l1)), (2, (0, e.1)), (3, (0, l3))] []) (hk : z_sum (fun q : Int × Int × Hp => ZV g x 5 q.2.2 49 [(0, (2, l0)), (1, (0, l1)), (2, (0, q.1)), (3, (0, l3)), (4, (0, q.2.1))] []) E y) : ZV g x 5 h 144 [(0, (2, l0)), (1, (0, l1)), (3, (0, l3)), (4, (0, l4))] [(0, s0), (0, s1)] := by
  unfold M_items_j144 at hf
  refine z_iadd X dX12_items_144 ?_
  refine z_istore_n X dX12_items_145 (by decide) (ls' := [(2, (0, w32 (s1 + s0))), (0, (2, l0)), (1, (0, l1)), (3, (0, l3)), (4, (0, l4))]) rfl ?_
  exact z_weak [1, 2, 0, 3, 4] rfl (z_M_items_j146 X hd l0 l1 (w32 (s1 + s0)) l3 l4 h _ hf E hx0 hk)
set_option maxHeartbeats 4000000 in
set_option maxRecDepth 100000 in
theorem z_M_items_j93 {g : GP} {x : CX} {d : Nat} (X : zX g x RX12 cX12_items 5 (d + 1)) (hd : 1 ≤ d) (l0 l1 l2 l3 l4 s0 s1 : Int) (h : Hp) (y : (Int × Int × Hp) ⊕ (Int × Hp)) (hf : M_items_j93 (d + 1) l0 l1 l2 l3 l4 s0 s1 h = some y) (E : Int × Hp → Prop) (hx0 : ∀ e : Int × Hp, E (e) → ZV g x 5 e.2 152 [(0, (2, l0)), (1, (0, l1)), (2, (0, e.1)), (3, (0, l3))] []) (hk : z_sum (fun q : Int × Int × Hp => ZV g x 5 q.2.2 49 [(0, (2, l0)), (1, (0, l1)), (2, (0, q.1)), (3, (0, l3)), (4, (0, q.2.1))] []) E y) : ZV g x 5 h 93 [(0, (2, l0)), (1, (0, l1)), (2, (0, l2)), (3, (0, l3)), (4, (0, l4))] [(0, s0), (0, s1)] := by
  unfold M_items_j93 at hf
  refine z_icmp_eq X dX12_items_93 rfl (fun hc93 => ?_) (fun hc93 => ?_)
  · have hf := ift hc93 hf
    refine z_iload_n X dX12_items_99 2 rfl ?_
    refine z_aload_n X dX12_items_100 0 rfl ?_
    refine z_iload_n X dX12_items_101 1 rfl ?_
    refine z_iload_n X dX12_items_102 3 rfl ?_
    refine z_aload_n X dX12_items_103 0 rfl ?_
    obtain ⟨g8, hf⟩ := gif hf
    refine y_get X fl_RX12_188 dX12_items_104 g8 ?_
    refine z_iload X dX12_items_107 4 rfl ?_
    obtain ⟨g9, hf⟩ := gif hf
    refine y_iald X dX12_items_109 g9 ?_
    refine z_aload_n X dX12_items_110 0 rfl ?_
    refine y_get X fl_RX12_191 dX12_items_111 g8 ?_
    refine z_iload X dX12_items_114 4 rfl ?_
    obtain ⟨g10, hf⟩ := gif hf
    refine y_iald X dX12_items_116 g10 ?_
    refine z_aload_n X dX12_items_117 0 rfl ?_
    refine y_get X fl_RX12_194 dX12_items_118 g8 ?_
    refine z_iload X dX12_items_121 4 rfl ?_
    obtain ⟨g11, hf⟩ := gif hf
    refine y_iald X dX12_items_123 g11 ?_
    refine z_aload_n X dX12_items_124 0 rfl ?_
    refine y_get X fl_RX12_197 dX12_items_125 g8 ?_
    refine z_iload X dX12_items_128 4 rfl ?_
    obtain ⟨g12, hf⟩ := gif hf
    refine y_iald X dX12_items_130 g12 ?_
    obtain ⟨r131, hr131, hf⟩ := obE hf
    refine y_V1 X cv_RX12_292 dX12_items_131 g8 (c_M_waysOf d l0 l1 l3 (h (h l0 37) l4) (h (h l0 38) l4) (h (h l0 39) l4) (h (h l0 40) l4) h r131 hr131) (as := [(0, l1), (0, l3), (0, h (h l0 37) l4), (0, h (h l0 38) l4), (0, h (h l0 39) l4), (0, h (h l0 40) l4)]) rfl rfl (Nat.le_of_ble_eq_true rfl) z00 ?_
    refine z_lconst0 X dX12_items_134 ?_
    refine z_l_le X dX12_items_135 dX12_items_136 rfl (fun hc135 => ?_) (fun hc135 => ?_)
    · rw [if_pos hc135] at hf
      refine z_iconst X dX12_items_143 kc_0 ?_
      exact z_weak [0, 1, 3, 4] rfl (z_M_items_j144 X hd l0 l1 l3 l4 0 l2 r131.2 _ hf E hx0 hk)
    · rw [if_neg hc135] at hf
      refine z_iconst X dX12_items_139 kc_1 ?_
      refine z_goto X dX12_items_140 rfl ?_
      exact z_weak [0, 1, 3, 4] rfl (z_M_items_j144 X hd l0 l1 l3 l4 1 l2 r131.2 _ hf E hx0 hk)
  · have hf := iff' hc93 hf
    refine z_goto X dX12_items_96 rfl ?_
    exact (z_M_items_j146 X hd l0 l1 l2 l3 l4 h _ hf E hx0 hk)
set_option maxHeartbeats 4000000 in
set_option maxRecDepth 100000 in
theorem z_M_items_L49 {g : GP} {x : CX} {d : Nat} (X : zX g x RX12 cX12_items 5 (d + 1)) (hd : 1 ≤ d) (l0 l1 l3 : Int)  (E : Int × Hp → Prop) (hx0 : ∀ e : Int × Hp, E (e) → ZV g x 5 e.2 152 [(0, (2, l0)), (1, (0, l1)), (2, (0, e.1)), (3, (0, l3))] []) (l2 l4 : Int) (h : Hp) (y : (Int × Int × Hp) ⊕ (Int × Hp)) (hf : M_items_L49 (d + 1) l0 l1 l3 l2 l4 h = some y) (hk : z_sum (fun q : Int × Int × Hp => ZV g x 5 q.2.2 49 [(0, (2, l0)), (1, (0, l1)), (2, (0, q.1)), (3, (0, l3)), (4, (0, q.2.1))] []) E y) : ZV g x 5 h 49 [(0, (2, l0)), (1, (0, l1)), (2, (0, l2)), (3, (0, l3)), (4, (0, l4))] [] := by
  unfold M_items_L49 at hf
  refine z_iload X dX12_items_49 4 rfl ?_
  refine z_sipush X dX12_items_51 ks_540 kc_540 ?_
  refine z_icmp_ge X dX12_items_54 rfl (fun hc54 => ?_) (fun hc54 => ?_)
  · have hf := ift hc54 hf
    cases hf
    exact z_weak [0, 1, 2, 3] rfl (hx0 _ hk)
  · have hf := iff' hc54 hf
    refine z_aload_n X dX12_items_57 0 rfl ?_
    obtain ⟨g4, hf⟩ := gif hf
    refine y_get X fl_RX12_191 dX12_items_58 g4 ?_
    refine z_iload X dX12_items_61 4 rfl ?_
    obtain ⟨g5, hf⟩ := gif hf
    refine y_iald X dX12_items_63 g5 ?_
    refine z_aload_n X dX12_items_64 0 rfl ?_
    refine y_get X fl_RX12_171 dX12_items_65 g4 ?_
    refine z_icmp_gt X dX12_items_68 rfl (fun hc68 => ?_) (fun hc68 => ?_)
    · have hf := ift hc68 hf
      exact (z_M_items_j146 X hd l0 l1 l2 l3 l4 h _ hf E hx0 hk)
    · have hf := iff' hc68 hf
      refine z_aload_n X dX12_items_71 0 rfl ?_
      refine y_get X fl_RX12_167 dX12_items_72 g4 ?_
      refine z_iload_n X dX12_items_75 3 rfl ?_
      obtain ⟨g6, hf⟩ := gif hf
      refine y_zald X dX12_items_76 g6 ?_
      refine z_aload_n X dX12_items_77 0 rfl ?_
      refine y_get X fl_RX12_194 dX12_items_78 g4 ?_
      refine z_iload X dX12_items_81 4 rfl ?_
      obtain ⟨g7, hf⟩ := gif hf
      refine y_iald X dX12_items_83 g7 ?_
      refine z_iconst X dX12_items_84 kc_m1 ?_
      refine z_icmp_eq X dX12_items_85 rfl (fun hc85 => ?_) (fun hc85 => ?_)
      · rw [if_pos hc85] at hf
        refine z_iconst X dX12_items_92 kc_0 ?_
        exact (z_M_items_j93 X hd l0 l1 l2 l3 l4 0 (h (h l0 14) l3) h _ hf E hx0 hk)
      · rw [if_neg hc85] at hf
        refine z_iconst X dX12_items_88 kc_1 ?_
        refine z_goto X dX12_items_89 rfl ?_
        exact (z_M_items_j93 X hd l0 l1 l2 l3 l4 1 (h (h l0 14) l3) h _ hf E hx0 hk)
set_option maxHeartbeats 4000000 in
set_option maxRecDepth 100000 in
theorem z_M_items_j152 {g : GP} {x : CX} {d : Nat} (X : zX g x RX12 cX12_items 5 (d + 1)) (hd : 1 ≤ d) (l0 l1 l2 l3 : Int) (h : Hp) (y : (Int × Int × Hp) ⊕ (Int × Hp)) (hf : M_items_j152 (d + 1) l0 l1 l2 l3 h = some y) (E : Int × Hp → Prop) (hx0 : ∀ e : Int × Hp, E (e) → ZV g x 5 e.2 158 [(2, (0, e.1))] []) (hk : z_sum (fun q : Int × Int × Hp => ZV g x 5 q.2.2 22 [(0, (2, l0)), (1, (0, l1)), (2, (0, q.1)), (3, (0, q.2.1))] []) E y) : ZV g x 5 h 152 [(0, (2, l0)), (1, (0, l1)), (2, (0, l2)), (3, (0, l3))] [] := by
  unfold M_items_j152 at hf
  refine z_iinc X dX12_items_152 3 rfl (by decide) (ls' := [(3, (0, w32 (l3 + 1))), (0, (2, l0)), (1, (0, l1)), (2, (0, l2))]) rfl ?_
  refine z_goto X dX12_items_155 rfl ?_
  cases hf
  exact z_weak [1, 2, 3, 0] rfl hk
set_option maxHeartbeats 4000000 in
set_option maxRecDepth 100000 in
theorem z_M_items_L22 {g : GP} {x : CX} {d : Nat} (X : zX g x RX12 cX12_items 5 (d + 1)) (hd : 1 ≤ d) (l0 l1 : Int)  (E : Int × Hp → Prop) (hx0 : ∀ e : Int × Hp, E (e) → ZV g x 5 e.2 158 [(2, (0, e.1))] []) (l2 l3 : Int) (h : Hp) (y : (Int × Int × Hp) ⊕ (Int × Hp)) (hf : M_items_L22 (d + 1) l0 l1 l2 l3 h = some y) (hk : z_sum (fun q : Int × Int × Hp => ZV g x 5 q.2.2 22 [(0, (2, l0)), (1, (0, l1)), (2, (0, q.1)), (3, (0, q.2.1))] []) E y) : ZV g x 5 h 22 [(0, (2, l0)), (1, (0, l1)), (2, (0, l2)), (3, (0, l3))] [] := by
  unfold M_items_L22 at hf
  refine z_iload_n X dX12_items_22 3 rfl ?_
  refine z_aload_n X dX12_items_23 0 rfl ?_
  obtain ⟨g2, hf⟩ := gif hf
  refine y_get X fl_RX12_149 dX12_items_24 g2 ?_
  refine z_icmp_ge X dX12_items_27 rfl (fun hc27 => ?_) (fun hc27 => ?_)
  · have hf := ift hc27 hf
    cases hf
    exact z_weak [2] rfl (hx0 _ hk)
  · have hf := iff' hc27 hf
    refine z_aload_n X dX12_items_30 0 rfl ?_
    refine z_aload_n X dX12_items_31 0 rfl ?_
    refine y_get X fl_RX12_161 dX12_items_32 g2 ?_
    refine z_iload_n X dX12_items_35 3 rfl ?_
    obtain ⟨g3, hf⟩ := gif hf
    refine y_iald X dX12_items_36 g3 ?_
    obtain ⟨r37, hr37, hf⟩ := obE hf
    refine y_V1 X cv_RX12_384 dX12_items_37 g2 (c_M_isOut d (Nat.zero_le _) l0 (h (h l0 15) l3) h r37 hr37) (as := [(0, h (h l0 15) l3)]) rfl rfl (Nat.le_of_ble_eq_true rfl) z00 ?_
    refine z_if_eq X dX12_items_40 rfl (fun hc40 => ?_) (fun hc40 => ?_)
    · have hf := ift hc40 hf
      refine z_iconst X dX12_items_46 kc_0 ?_
      refine z_istore X dX12_items_47 (by decide) (ls' := [(4, (0, 0)), (0, (2, l0)), (1, (0, l1)), (2, (0, l2)), (3, (0, l3))]) rfl ?_
      obtain ⟨q49, hq49, hf⟩ := obE hf
      have hx49_0 : ∀ e152 : Int × Hp, (e152 : Int × Hp) = q49 → ZV g x 5 e152.2 152 [(0, (2, l0)), (1, (0, l1)), (2, (0, e152.1)), (3, (0, l3))] [] := by
        intro e152 hq
        subst hq
        exact (z_M_items_j152 X hd l0 l1 e152.1 l3 e152.2 _ hf E hx0 hk)
      exact z_weak [1, 2, 3, 4, 0] rfl (z_loop (Z := (fun q : Int × Int × Hp => ZV g x 5 q.2.2 49 [(0, (2, l0)), (1, (0, l1)), (2, (0, q.1)), (3, (0, l3)), (4, (0, q.2.1))] [])) (E := fun q => q = q49) (fun q y hb hk => z_M_items_L49 X hd l0 l1 l3 (fun q => q = q49) hx49_0 q.1 q.2.1 q.2.2 y hb hk) LN (l2, 0, h) q49 hq49 rfl)
    · have hf := iff' hc40 hf
      refine z_goto X dX12_items_43 rfl ?_
      exact (z_M_items_j152 X hd l0 l1 l2 l3 h _ hf E hx0 hk)
set_option maxHeartbeats 4000000 in
set_option maxRecDepth 100000 in
theorem c_M_items {l : Launch} {g : GP} (d : Nat) (hd : 2 ≤ d) (l0 l1 : Int) (h : Hp) (y : Int × Hp) (hf : M_items d l0 l1 h = some y) : zM l yX12_items cX12_items 5 (some .int) d 0 0 g 157 h [(2, l0), (0, l1)] 157 y.2 (some (0, y.1)) := by
  obtain ⟨d, rfl⟩ : ∃ k, d = k + 1 := ⟨d - 1, by omega⟩
  replace hd : 1 ≤ d := Nat.le_of_succ_le_succ hd
  refine z_start (by decide) (Nat.le_of_ble_eq_true rfl) (fun x X hK _ _ _ hl => ?_)
  show ZV g x 5 h 0 [(0, (2, l0)), (1, (0, l1))] []
  unfold M_items at hf
  refine z_iload_n X dX12_items_0 1 rfl ?_
  refine z_i2l X dX12_items_1 ?_
  refine z_lconst0 X dX12_items_2 ?_
  refine z_lconst1 X dX12_items_3 ?_
  obtain ⟨r4, hr4, hf⟩ := obE hf
  refine y_S1 X cs_RX12_14 dX12_items_4 (c_M_in d (Nat.zero_le _) l1 0 1 h r4 hr4) (as := [(1, l1), (1, 0), (1, 1)]) rfl rfl (Nat.le_of_ble_eq_true rfl) z00 ?_
  refine z_if_ne X dX12_items_7 rfl (fun hc7 => ?_) (fun hc7 => ?_)
  · have hf := iff' hc7 hf
    refine z_aload_n X dX12_items_13 0 rfl ?_
    refine z_iconst X dX12_items_14 kc_0 ?_
    obtain ⟨g1, hf⟩ := gif hf
    obtain ⟨r15, hr15, hf⟩ := obE hf
    refine y_V0 X cv_RX12_387 dX12_items_15 g1 (c_M_looksAt d (Nat.le_trans (by decide) hd) l0 0 h r15 hr15) (as := [(0, 0)]) rfl rfl (Nat.le_of_ble_eq_true rfl) z00 ?_
    refine z_iconst X dX12_items_18 kc_0 ?_
    refine z_istore_n X dX12_items_19 (by decide) (ls' := [(2, (0, 0)), (0, (2, l0)), (1, (0, l1))]) rfl ?_
    refine z_iconst X dX12_items_20 kc_0 ?_
    refine z_istore_n X dX12_items_21 (by decide) (ls' := [(3, (0, 0)), (2, (0, 0)), (0, (2, l0)), (1, (0, l1))]) rfl ?_
    obtain ⟨q22, hq22, hf⟩ := obE hf
    have hx22_0 : ∀ e158 : Int × Hp, (e158 : Int × Hp) = q22 → ZV g x 5 e158.2 158 [(2, (0, e158.1))] [] := by
      intro e158 hq
      subst hq
      refine z_iload_n X dX12_items_158 0 rfl ?_
      cases hf
      exact z_iret X hK dX12_items_159
    exact z_weak [2, 3, 1, 0] rfl (z_loop (Z := (fun q : Int × Int × Hp => ZV g x 5 q.2.2 22 [(0, (2, l0)), (1, (0, l1)), (2, (0, q.1)), (3, (0, q.2.1))] [])) (E := fun q => q = q22) (fun q y hb hk => z_M_items_L22 X hd l0 l1 (fun q => q = q22) hx22_0 q.1 q.2.1 q.2.2 y hb hk) LN (0, 0, r15) q22 hq22 rfl)
  · have hf := ift hc7 hf
    refine z_bipush X dX12_items_10 kb_m2 kc_m2 ?_
    cases hf
    exact z_iret X hK dX12_items_12
set_option maxHeartbeats 4000000 in
set_option maxRecDepth 100000 in
theorem z_M_treesOver_j78 {g : GP} {x : CX} {d : Nat} (X : zX g x RX12 cX12_treesOver 7 (d + 1)) (hd : 1 ≤ d) (l0 l1 l2 l3 l4 l5 l6 : Int) (h : Hp) (y : (Int × Int × Hp) ⊕ (Int × Hp)) (hf : M_treesOver_j78 (d + 1) l0 l1 l2 l3 l4 l5 l6 h = some y) (E : Int × Hp → Prop) (hx0 : ∀ e : Int × Hp, E (e) → ZV g x 7 e.2 84 [(5, (0, e.1))] []) (hk : z_sum (fun q : Int × Int × Hp => ZV g x 7 q.2.2 11 [(0, (2, l0)), (1, (0, l1)), (2, (0, l2)), (3, (0, l3)), (4, (0, l4)), (5, (0, q.1)), (6, (0, q.2.1))] []) E y) : ZV g x 7 h 78 [(0, (2, l0)), (1, (0, l1)), (2, (0, l2)), (3, (0, l3)), (4, (0, l4)), (5, (0, l5)), (6, (0, l6))] [] := by
  unfold M_treesOver_j78 at hf
  refine z_iinc X dX12_treesOver_78 6 rfl (by decide) (ls' := [(6, (0, w32 (l6 + 1))), (0, (2, l0)), (1, (0, l1)), (2, (0, l2)), (3, (0, l3)), (4, (0, l4)), (5, (0, l5))]) rfl ?_
  refine z_goto X dX12_treesOver_81 rfl ?_
  cases hf
  exact z_weak [1, 2, 3, 4, 5, 6, 0] rfl hk
set_option maxHeartbeats 4000000 in
set_option maxRecDepth 100000 in
theorem z_M_treesOver_j36 {g : GP} {x : CX} {d : Nat} (X : zX g x RX12 cX12_treesOver 7 (d + 1)) (hd : 1 ≤ d) (l0 l1 l2 l3 l4 l5 l6 s0 s1 : Int) (h : Hp) (y : (Int × Int × Hp) ⊕ (Int × Hp)) (hf : M_treesOver_j36 (d + 1) l0 l1 l2 l3 l4 l5 l6 s0 s1 h = some y) (E : Int × Hp → Prop) (hx0 : ∀ e : Int × Hp, E (e) → ZV g x 7 e.2 84 [(5, (0, e.1))] []) (hk : z_sum (fun q : Int × Int × Hp => ZV g x 7 q.2.2 11 [(0, (2, l0)), (1, (0, l1)), (2, (0, l2)), (3, (0, l3)), (4, (0, l4)), (5, (0, q.1)), (6, (0, q.2.1))] []) E y) : ZV g x 7 h 36 [(0, (2, l0)), (1, (0, l1)), (2, (0, l2)), (3, (0, l3)), (4, (0, l4)), (5, (0, l5)), (6, (0, l6))] [(0, s0), (0, s1)] := by
  unfold M_treesOver_j36 at hf
  refine z_icmp_ne X dX12_treesOver_36 rfl (fun hc36 => ?_) (fun hc36 => ?_)
  · have hf := iff' hc36 hf
    exact (z_M_treesOver_j78 X hd l0 l1 l2 l3 l4 l5 l6 h _ hf E hx0 hk)
  · have hf := ift hc36 hf
    refine z_aload_n X dX12_treesOver_39 0 rfl ?_
    refine z_iload X dX12_treesOver_40 6 rfl ?_
    obtain ⟨g3, hf⟩ := gif hf
    obtain ⟨r42, hr42, hf⟩ := obE hf
    refine y_V1 X cv_RX12_384 dX12_treesOver_42 g3 (c_M_isOut d (Nat.zero_le _) l0 l6 h r42 hr42) (as := [(0, l6)]) rfl rfl (Nat.le_of_ble_eq_true rfl) z00 ?_
    refine z_if_ne X dX12_treesOver_45 rfl (fun hc45 => ?_) (fun hc45 => ?_)
    · have hf := iff' hc45 hf
      exact (z_M_treesOver_j78 X hd l0 l1 l2 l3 l4 l5 l6 h _ hf E hx0 hk)
    · have hf := ift hc45 hf
      refine z_aload_n X dX12_treesOver_48 0 rfl ?_
      refine z_iconst X dX12_treesOver_49 kc_1 ?_
      refine z_aload_n X dX12_treesOver_50 0 rfl ?_
      refine z_iload X dX12_treesOver_51 6 rfl ?_
      obtain ⟨r53, hr53, hf⟩ := obE hf
      refine y_V1 X cv_RX12_268 dX12_treesOver_53 g3 (c_M_root d (Nat.zero_le _) l0 l6 h r53 hr53) (as := [(0, l6)]) rfl rfl (Nat.le_of_ble_eq_true rfl) z00 ?_
      refine z_iload_n X dX12_treesOver_56 1 rfl ?_
      refine z_iload_n X dX12_treesOver_57 2 rfl ?_
      refine z_iload_n X dX12_treesOver_58 3 rfl ?_
      refine z_iload X dX12_treesOver_59 4 rfl ?_
      obtain ⟨r61, hr61, hf⟩ := obE hf
      refine y_V1 X cv_RX12_292 dX12_treesOver_61 g3 (c_M_waysOf d l0 1 r53 l1 l2 l3 l4 h r61 hr61) (as := [(0, 1), (0, r53), (0, l1), (0, l2), (0, l3), (0, l4)]) rfl rfl (Nat.le_of_ble_eq_true rfl) z00 ?_
      refine z_lconst0 X dX12_treesOver_64 ?_
      refine z_l_le X dX12_treesOver_65 dX12_treesOver_66 rfl (fun hc65 => ?_) (fun hc65 => ?_)
      · rw [if_pos hc65] at hf
        exact (z_M_treesOver_j78 X hd l0 l1 l2 l3 l4 l5 l6 r61.2 _ hf E hx0 hk)
      · rw [if_neg hc65] at hf
        refine z_iload X dX12_treesOver_69 5 rfl ?_
        refine z_iconst X dX12_treesOver_71 kc_1 ?_
        refine z_iload X dX12_treesOver_72 6 rfl ?_
        refine z_ishl X dX12_treesOver_74 ?_
        refine z_ior X dX12_treesOver_75 ?_
        refine z_istore X dX12_treesOver_76 (by decide) (ls' := [(5, (0, i_or l5 (i_shl 1 l6))), (0, (2, l0)), (1, (0, l1)), (2, (0, l2)), (3, (0, l3)), (4, (0, l4)), (6, (0, l6))]) rfl ?_
        exact z_weak [1, 2, 3, 4, 5, 0, 6] rfl (z_M_treesOver_j78 X hd l0 l1 l2 l3 l4 (i_or l5 (i_shl 1 l6)) l6 r61.2 _ hf E hx0 hk)
set_option maxHeartbeats 4000000 in
set_option maxRecDepth 100000 in
theorem z_M_treesOver_L11 {g : GP} {x : CX} {d : Nat} (X : zX g x RX12 cX12_treesOver 7 (d + 1)) (hd : 1 ≤ d) (l0 l1 l2 l3 l4 : Int)  (E : Int × Hp → Prop) (hx0 : ∀ e : Int × Hp, E (e) → ZV g x 7 e.2 84 [(5, (0, e.1))] []) (l5 l6 : Int) (h : Hp) (y : (Int × Int × Hp) ⊕ (Int × Hp)) (hf : M_treesOver_L11 (d + 1) l0 l1 l2 l3 l4 l5 l6 h = some y) (hk : z_sum (fun q : Int × Int × Hp => ZV g x 7 q.2.2 11 [(0, (2, l0)), (1, (0, l1)), (2, (0, l2)), (3, (0, l3)), (4, (0, l4)), (5, (0, q.1)), (6, (0, q.2.1))] []) E y) : ZV g x 7 h 11 [(0, (2, l0)), (1, (0, l1)), (2, (0, l2)), (3, (0, l3)), (4, (0, l4)), (5, (0, l5)), (6, (0, l6))] [] := by
  unfold M_treesOver_L11 at hf
  refine z_iload X dX12_treesOver_11 6 rfl ?_
  refine z_aload_n X dX12_treesOver_13 0 rfl ?_
  obtain ⟨g2, hf⟩ := gif hf
  refine y_get X fl_RX12_11 dX12_treesOver_14 g2 ?_
  refine z_icmp_ge X dX12_treesOver_17 rfl (fun hc17 => ?_) (fun hc17 => ?_)
  · have hf := ift hc17 hf
    cases hf
    exact z_weak [5] rfl (hx0 _ hk)
  · have hf := iff' hc17 hf
    refine z_aload_n X dX12_treesOver_20 0 rfl ?_
    refine z_iload X dX12_treesOver_21 6 rfl ?_
    obtain ⟨r23, hr23, hf⟩ := obE hf
    refine y_V1 X cv_RX12_265 dX12_treesOver_23 g2 (c_M_isGuest d (Nat.zero_le _) l0 l6 h r23 hr23) (as := [(0, l6)]) rfl rfl (Nat.le_of_ble_eq_true rfl) z00 ?_
    refine z_iload_n X dX12_treesOver_26 3 rfl ?_
    refine z_iconst X dX12_treesOver_27 kc_m1 ?_
    refine z_icmp_eq X dX12_treesOver_28 rfl (fun hc28 => ?_) (fun hc28 => ?_)
    · rw [if_pos hc28] at hf
      refine z_iconst X dX12_treesOver_35 kc_0 ?_
      exact (z_M_treesOver_j36 X hd l0 l1 l2 l3 l4 l5 l6 0 r23 h _ hf E hx0 hk)
    · rw [if_neg hc28] at hf
      refine z_iconst X dX12_treesOver_31 kc_1 ?_
      refine z_goto X dX12_treesOver_32 rfl ?_
      exact (z_M_treesOver_j36 X hd l0 l1 l2 l3 l4 l5 l6 1 r23 h _ hf E hx0 hk)
set_option maxHeartbeats 4000000 in
set_option maxRecDepth 100000 in
theorem c_M_treesOver {l : Launch} {g : GP} (d : Nat) (hd : 2 ≤ d) (l0 l1 l2 l3 l4 : Int) (h : Hp) (y : Int × Hp) (hf : M_treesOver d l0 l1 l2 l3 l4 h = some y) : zM l yX12_treesOver cX12_treesOver 7 (some .int) d 0 0 g 157 h [(2, l0), (0, l1), (0, l2), (0, l3), (0, l4)] 157 y.2 (some (0, y.1)) := by
  obtain ⟨d, rfl⟩ : ∃ k, d = k + 1 := ⟨d - 1, by omega⟩
  replace hd : 1 ≤ d := Nat.le_of_succ_le_succ hd
  refine z_start (by decide) (Nat.le_of_ble_eq_true rfl) (fun x X hK _ _ _ hl => ?_)
  show ZV g x 7 h 0 [(0, (2, l0)), (1, (0, l1)), (2, (0, l2)), (3, (0, l3)), (4, (0, l4))] []
  unfold M_treesOver at hf
  refine z_aload_n X dX12_treesOver_0 0 rfl ?_
  refine z_iconst X dX12_treesOver_1 kc_0 ?_
  obtain ⟨g1, hf⟩ := gif hf
  obtain ⟨r2, hr2, hf⟩ := obE hf
  refine y_V0 X cv_RX12_387 dX12_treesOver_2 g1 (c_M_looksAt d (Nat.le_trans (by decide) hd) l0 0 h r2 hr2) (as := [(0, 0)]) rfl rfl (Nat.le_of_ble_eq_true rfl) z00 ?_
  refine z_iconst X dX12_treesOver_5 kc_0 ?_
  refine z_istore X dX12_treesOver_6 (by decide) (ls' := [(5, (0, 0)), (0, (2, l0)), (1, (0, l1)), (2, (0, l2)), (3, (0, l3)), (4, (0, l4))]) rfl ?_
  refine z_iconst X dX12_treesOver_8 kc_0 ?_
  refine z_istore X dX12_treesOver_9 (by decide) (ls' := [(6, (0, 0)), (5, (0, 0)), (0, (2, l0)), (1, (0, l1)), (2, (0, l2)), (3, (0, l3)), (4, (0, l4))]) rfl ?_
  obtain ⟨q11, hq11, hf⟩ := obE hf
  have hx11_0 : ∀ e84 : Int × Hp, (e84 : Int × Hp) = q11 → ZV g x 7 e84.2 84 [(5, (0, e84.1))] [] := by
    intro e84 hq
    subst hq
    refine z_iload X dX12_treesOver_84 0 rfl ?_
    cases hf
    exact z_iret X hK dX12_treesOver_86
  exact z_weak [2, 3, 4, 5, 6, 1, 0] rfl (z_loop (Z := (fun q : Int × Int × Hp => ZV g x 7 q.2.2 11 [(0, (2, l0)), (1, (0, l1)), (2, (0, l2)), (3, (0, l3)), (4, (0, l4)), (5, (0, q.1)), (6, (0, q.2.1))] [])) (E := fun q => q = q11) (fun q y hb hk => z_M_treesOver_L11 X hd l0 l1 l2 l3 l4 (fun q => q = q11) hx11_0 q.1 q.2.1 q.2.2 y hb hk) LN (0, 0, r2) q11 hq11 rfl)
set_option maxHeartbeats 4000000 in
set_option maxRecDepth 100000 in
theorem c_M_spans {l : Launch} {g : GP} (d : Nat) (hd : 3 ≤ d) (l0 l1 l2 : Int) (h : Hp) (y : Int × Hp) (hf : M_spans d l0 l1 l2 h = some y) : zM l yX12_spans cX12_spans 3 (some .int) d 0 0 g 157 h [(2, l0), (0, l1), (0, l2)] 157 y.2 (some (0, y.1)) := by
  obtain ⟨d, rfl⟩ : ∃ k, d = k + 1 := ⟨d - 1, by omega⟩
  replace hd : 2 ≤ d := Nat.le_of_succ_le_succ hd
  refine z_start (by decide) (Nat.le_of_ble_eq_true rfl) (fun x X hK _ _ _ hl => ?_)
  show ZV g x 3 h 0 [(0, (2, l0)), (1, (0, l1)), (2, (0, l2))] []
  unfold M_spans at hf
  refine z_aload_n X dX12_spans_0 0 rfl ?_
  refine z_iload_n X dX12_spans_1 1 rfl ?_
  refine z_iload_n X dX12_spans_2 2 rfl ?_
  obtain ⟨g1, hf⟩ := gif hf
  obtain ⟨r3, hr3, hf⟩ := obE hf
  refine y_V1 X cv_RX12_375 dX12_spans_3 g1 (c_M_isSpan d (Nat.zero_le _) l0 l1 l2 h r3 hr3) (as := [(0, l1), (0, l2)]) rfl rfl (Nat.le_of_ble_eq_true rfl) z00 ?_
  refine z_if_eq X dX12_spans_6 rfl (fun hc6 => ?_) (fun hc6 => ?_)
  · have hf := ift hc6 hf
    refine z_bipush X dX12_spans_20 kb_m2 kc_m2 ?_
    cases hf
    exact z_iret X hK dX12_spans_22
  · have hf := iff' hc6 hf
    refine z_aload_n X dX12_spans_9 0 rfl ?_
    refine z_iload_n X dX12_spans_10 1 rfl ?_
    refine z_iload_n X dX12_spans_11 2 rfl ?_
    refine z_iconst X dX12_spans_12 kc_m1 ?_
    refine z_iconst X dX12_spans_13 kc_m1 ?_
    obtain ⟨r14, hr14, hf⟩ := obE hf
    refine y_V1 X cv_RX12_394 dX12_spans_14 g1 (c_M_treesOver d (Nat.le_trans (by decide) hd) l0 l1 l2 ((-1)) ((-1)) h r14 hr14) (as := [(0, l1), (0, l2), (0, (-1)), (0, (-1))]) rfl rfl (Nat.le_of_ble_eq_true rfl) z00 ?_
    refine z_goto X dX12_spans_17 rfl ?_
    cases hf
    exact z_iret X hK dX12_spans_22
set_option maxHeartbeats 4000000 in
set_option maxRecDepth 100000 in
theorem c_M_around {l : Launch} {g : GP} (d : Nat) (hd : 3 ≤ d) (l0 l1 l2 l3 l4 : Int) (h : Hp) (y : Int × Hp) (hf : M_around d l0 l1 l2 l3 l4 h = some y) : zM l yX12_around cX12_around 5 (some .int) d 0 0 g 157 h [(2, l0), (0, l1), (0, l2), (0, l3), (0, l4)] 157 y.2 (some (0, y.1)) := by
  obtain ⟨d, rfl⟩ : ∃ k, d = k + 1 := ⟨d - 1, by omega⟩
  replace hd : 2 ≤ d := Nat.le_of_succ_le_succ hd
  refine z_start (by decide) (Nat.le_of_ble_eq_true rfl) (fun x X hK _ _ _ hl => ?_)
  show ZV g x 5 h 0 [(0, (2, l0)), (1, (0, l1)), (2, (0, l2)), (3, (0, l3)), (4, (0, l4))] []
  unfold M_around at hf
  refine z_aload_n X dX12_around_0 0 rfl ?_
  refine z_iload_n X dX12_around_1 1 rfl ?_
  refine z_iload_n X dX12_around_2 2 rfl ?_
  refine z_iload_n X dX12_around_3 3 rfl ?_
  refine z_iload X dX12_around_4 4 rfl ?_
  obtain ⟨g1, hf⟩ := gif hf
  obtain ⟨r6, hr6, hf⟩ := obE hf
  refine y_V1 X cv_RX12_380 dX12_around_6 g1 (c_M_isGap d (Nat.le_trans (by decide) hd) l0 l1 l2 l3 l4 h r6 hr6) (as := [(0, l1), (0, l2), (0, l3), (0, l4)]) rfl rfl (Nat.le_of_ble_eq_true rfl) z00 ?_
  refine z_if_eq X dX12_around_9 rfl (fun hc9 => ?_) (fun hc9 => ?_)
  · have hf := ift hc9 hf
    refine z_bipush X dX12_around_24 kb_m2 kc_m2 ?_
    cases hf
    exact z_iret X hK dX12_around_26
  · have hf := iff' hc9 hf
    refine z_aload_n X dX12_around_12 0 rfl ?_
    refine z_iload_n X dX12_around_13 1 rfl ?_
    refine z_iload_n X dX12_around_14 2 rfl ?_
    refine z_iload_n X dX12_around_15 3 rfl ?_
    refine z_iload X dX12_around_16 4 rfl ?_
    obtain ⟨r18, hr18, hf⟩ := obE hf
    refine y_V1 X cv_RX12_394 dX12_around_18 g1 (c_M_treesOver d (Nat.le_trans (by decide) hd) l0 l1 l2 l3 l4 h r18 hr18) (as := [(0, l1), (0, l2), (0, l3), (0, l4)]) rfl rfl (Nat.le_of_ble_eq_true rfl) z00 ?_
    refine z_goto X dX12_around_21 rfl ?_
    cases hf
    exact z_iret X hK dX12_around_26
set_option maxHeartbeats 4000000 in
set_option maxRecDepth 100000 in
theorem z_M_waysOfAll_j48 {g : GP} {x : CX} {d : Nat} (X : zX g x RX12 cX12_waysOfAll 5 (d + 1)) (hd : 1 ≤ d) (l0 l1 l2 l4 : Int) (h : Hp) (y : (Int × Int × Hp) ⊕ (Int × Hp)) (hf : M_waysOfAll_j48 (d + 1) l0 l1 l2 l4 h = some y) (E : Int × Hp → Prop) (hx0 : ∀ e : Int × Hp, E (e) → ZV g x 5 e.2 54 [(2, (1, e.1))] []) (hk : z_sum (fun q : Int × Int × Hp => ZV g x 5 q.2.2 5 [(0, (2, l0)), (1, (0, l1)), (2, (1, q.1)), (4, (0, q.2.1))] []) E y) : ZV g x 5 h 48 [(0, (2, l0)), (1, (0, l1)), (2, (1, l2)), (4, (0, l4))] [] := by
  unfold M_waysOfAll_j48 at hf
  refine z_iinc X dX12_waysOfAll_48 3 rfl (by decide) (ls' := [(4, (0, w32 (l4 + 1))), (0, (2, l0)), (1, (0, l1)), (2, (1, l2))]) rfl ?_
  refine z_goto X dX12_waysOfAll_51 rfl ?_
  cases hf
  exact z_weak [1, 2, 3, 0] rfl hk
set_option maxHeartbeats 4000000 in
set_option maxRecDepth 100000 in
theorem z_M_waysOfAll_L5 {g : GP} {x : CX} {d : Nat} (X : zX g x RX12 cX12_waysOfAll 5 (d + 1)) (hd : 1 ≤ d) (l0 l1 : Int)  (E : Int × Hp → Prop) (hx0 : ∀ e : Int × Hp, E (e) → ZV g x 5 e.2 54 [(2, (1, e.1))] []) (l2 l4 : Int) (h : Hp) (y : (Int × Int × Hp) ⊕ (Int × Hp)) (hf : M_waysOfAll_L5 (d + 1) l0 l1 l2 l4 h = some y) (hk : z_sum (fun q : Int × Int × Hp => ZV g x 5 q.2.2 5 [(0, (2, l0)), (1, (0, l1)), (2, (1, q.1)), (4, (0, q.2.1))] []) E y) : ZV g x 5 h 5 [(0, (2, l0)), (1, (0, l1)), (2, (1, l2)), (4, (0, l4))] [] := by
  unfold M_waysOfAll_L5 at hf
  refine z_iload X dX12_waysOfAll_5 3 rfl ?_
  refine z_aload_n X dX12_waysOfAll_7 0 rfl ?_
  obtain ⟨g1, hf⟩ := gif hf
  refine y_get X fl_RX12_11 dX12_waysOfAll_8 g1 ?_
  refine z_icmp_ge X dX12_waysOfAll_11 rfl (fun hc11 => ?_) (fun hc11 => ?_)
  · have hf := ift hc11 hf
    cases hf
    exact z_weak [2] rfl (hx0 _ hk)
  · have hf := iff' hc11 hf
    refine z_aload_n X dX12_waysOfAll_14 0 rfl ?_
    refine z_iload X dX12_waysOfAll_15 3 rfl ?_
    refine z_aload_n X dX12_waysOfAll_17 0 rfl ?_
    obtain ⟨r18, hr18, hf⟩ := obE hf
    refine y_V1 X cv_RX12_354 dX12_waysOfAll_18 g1 (c_M_start d (Nat.zero_le _) l0 h r18 hr18) (as := []) rfl rfl (Nat.le_of_ble_eq_true rfl) z00 ?_
    refine z_iconst X dX12_waysOfAll_21 kc_0 ?_
    obtain ⟨r22, hr22, hf⟩ := obE hf
    refine y_V1 X cv_RX12_296 dX12_waysOfAll_22 g1 (c_M_mayGo d (Nat.le_trans (by decide) hd) l0 l4 r18 0 h r22 hr22) (as := [(0, l4), (0, r18), (0, 0)]) rfl rfl (Nat.le_of_ble_eq_true rfl) z00 ?_
    refine z_if_eq X dX12_waysOfAll_25 rfl (fun hc25 => ?_) (fun hc25 => ?_)
    · have hf := ift hc25 hf
      exact (z_M_waysOfAll_j48 X hd l0 l1 l2 l4 h _ hf E hx0 hk)
    · have hf := iff' hc25 hf
      refine z_lload_n X dX12_waysOfAll_28 2 rfl ?_
      refine z_aload_n X dX12_waysOfAll_29 0 rfl ?_
      refine z_iconst X dX12_waysOfAll_30 kc_1 ?_
      refine z_aload_n X dX12_waysOfAll_31 0 rfl ?_
      refine z_iload X dX12_waysOfAll_32 3 rfl ?_
      obtain ⟨r34, hr34, hf⟩ := obE hf
      refine y_V1 X cv_RX12_268 dX12_waysOfAll_34 g1 (c_M_root d (Nat.zero_le _) l0 l4 h r34 hr34) (as := [(0, l4)]) rfl rfl (Nat.le_of_ble_eq_true rfl) z00 ?_
      refine z_iconst X dX12_waysOfAll_37 kc_0 ?_
      refine z_iload_n X dX12_waysOfAll_38 1 rfl ?_
      refine z_iconst X dX12_waysOfAll_39 kc_m1 ?_
      refine z_iconst X dX12_waysOfAll_40 kc_m1 ?_
      obtain ⟨r41, hr41, hf⟩ := obE hf
      refine y_V1 X cv_RX12_292 dX12_waysOfAll_41 g1 (c_M_waysOf d l0 1 r34 0 l1 ((-1)) ((-1)) h r41 hr41) (as := [(0, 1), (0, r34), (0, 0), (0, l1), (0, (-1)), (0, (-1))]) rfl rfl (Nat.le_of_ble_eq_true rfl) z00 ?_
      obtain ⟨r44, hr44, hf⟩ := obE hf
      refine y_S1 X cs_RX12_304 dX12_waysOfAll_44 (c_M_sum d (Nat.le_trans (by decide) hd) l2 r41.1 r41.2 r44 hr44) (as := [(1, l2), (1, r41.1)]) rfl rfl (Nat.le_of_ble_eq_true rfl) z00 ?_
      refine z_lstore_n X dX12_waysOfAll_47 (by decide) (ls' := [(2, (1, r44)), (0, (2, l0)), (1, (0, l1)), (4, (0, l4))]) rfl ?_
      exact z_weak [1, 2, 0, 3] rfl (z_M_waysOfAll_j48 X hd l0 l1 r44 l4 r41.2 _ hf E hx0 hk)
set_option maxHeartbeats 4000000 in
set_option maxRecDepth 100000 in
theorem c_M_waysOfAll {l : Launch} {g : GP} (d : Nat) (hd : 2 ≤ d) (l0 l1 : Int) (h : Hp) (y : Int × Hp) (hf : M_waysOfAll d l0 l1 h = some y) : zM l yX12_waysOfAll cX12_waysOfAll 5 (some .long) d 0 0 g 157 h [(2, l0), (0, l1)] 157 y.2 (some (1, y.1)) := by
  obtain ⟨d, rfl⟩ : ∃ k, d = k + 1 := ⟨d - 1, by omega⟩
  replace hd : 1 ≤ d := Nat.le_of_succ_le_succ hd
  refine z_start (by decide) (Nat.le_of_ble_eq_true rfl) (fun x X hK _ _ _ hl => ?_)
  show ZV g x 5 h 0 [(0, (2, l0)), (1, (0, l1))] []
  unfold M_waysOfAll at hf
  refine z_lconst0 X dX12_waysOfAll_0 ?_
  refine z_lstore_n X dX12_waysOfAll_1 (by decide) (ls' := [(2, (1, 0)), (0, (2, l0)), (1, (0, l1))]) rfl ?_
  refine z_iconst X dX12_waysOfAll_2 kc_0 ?_
  refine z_istore X dX12_waysOfAll_3 (by decide) (ls' := [(4, (0, 0)), (2, (1, 0)), (0, (2, l0)), (1, (0, l1))]) rfl ?_
  obtain ⟨q5, hq5, hf⟩ := obE hf
  have hx5_0 : ∀ e54 : Int × Hp, (e54 : Int × Hp) = q5 → ZV g x 5 e54.2 54 [(2, (1, e54.1))] [] := by
    intro e54 hq
    subst hq
    refine z_lload_n X dX12_waysOfAll_54 0 rfl ?_
    cases hf
    exact z_lret X hK dX12_waysOfAll_55
  exact z_weak [2, 3, 1, 0] rfl (z_loop (Z := (fun q : Int × Int × Hp => ZV g x 5 q.2.2 5 [(0, (2, l0)), (1, (0, l1)), (2, (1, q.1)), (4, (0, q.2.1))] [])) (E := fun q => q = q5) (fun q y hb hk => z_M_waysOfAll_L5 X hd l0 l1 (fun q => q = q5) hx5_0 q.1 q.2.1 q.2.2 y hb hk) LN (0, 0, h) q5 hq5 rfl)
set_option maxHeartbeats 4000000 in
set_option maxRecDepth 100000 in
theorem c_M_reads {l : Launch} {g : GP} (d : Nat) (hd : 3 ≤ d) (l0 : Int) (h : Hp) (y : Int × Hp) (hf : M_reads d l0 h = some y) : zM l yX12_reads cX12_reads 1 (some .int) d 0 0 g 157 h [(2, l0)] 157 y.2 (some (0, y.1)) := by
  obtain ⟨d, rfl⟩ : ∃ k, d = k + 1 := ⟨d - 1, by omega⟩
  replace hd : 2 ≤ d := Nat.le_of_succ_le_succ hd
  refine z_start (by decide) (Nat.le_of_ble_eq_true rfl) (fun x X hK _ _ _ hl => ?_)
  show ZV g x 1 h 0 [(0, (2, l0))] []
  unfold M_reads at hf
  refine z_aload_n X dX12_reads_0 0 rfl ?_
  refine z_iconst X dX12_reads_1 kc_0 ?_
  obtain ⟨g1, hf⟩ := gif hf
  obtain ⟨r2, hr2, hf⟩ := obE hf
  refine y_V0 X cv_RX12_387 dX12_reads_2 g1 (c_M_looksAt d (Nat.le_trans (by decide) hd) l0 0 h r2 hr2) (as := [(0, 0)]) rfl rfl (Nat.le_of_ble_eq_true rfl) z00 ?_
  refine z_aload_n X dX12_reads_5 0 rfl ?_
  refine z_aload_n X dX12_reads_6 0 rfl ?_
  refine y_get X fl_RX12_249 dX12_reads_7 g1 ?_
  obtain ⟨r10, hr10, hf⟩ := obE hf
  refine y_V1 X cv_RX12_397 dX12_reads_10 g1 (c_M_waysOfAll d (Nat.le_trans (by decide) hd) l0 (r2 l0 34) r2 r10 hr10) (as := [(0, r2 l0 34)]) rfl rfl (Nat.le_of_ble_eq_true rfl) z00 ?_
  refine z_lconst0 X dX12_reads_13 ?_
  refine z_l_le X dX12_reads_14 dX12_reads_15 rfl (fun hc14 => ?_) (fun hc14 => ?_)
  · rw [if_pos hc14] at hf
    refine z_iconst X dX12_reads_22 kc_0 ?_
    cases hf
    exact z_iret X hK dX12_reads_23
  · rw [if_neg hc14] at hf
    refine z_iconst X dX12_reads_18 kc_1 ?_
    refine z_goto X dX12_reads_19 rfl ?_
    cases hf
    exact z_iret X hK dX12_reads_23
set_option maxHeartbeats 4000000 in
set_option maxRecDepth 100000 in
theorem z_M_heads_j35 {g : GP} {x : CX} {d : Nat} (X : zX g x RX12 cX12_heads 3 (d + 1)) (hd : 2 ≤ d) (l0 l2 s0 s1 : Int) (h : Hp) (y : (Int × Int × Hp) ⊕ (Int × Hp)) (hf : M_heads_j35 (d + 1) l0 l2 s0 s1 h = some y) (E : Int × Hp → Prop) (hx0 : ∀ e : Int × Hp, E (e) → ZV g x 3 e.2 43 [(1, (0, e.1))] []) (hk : z_sum (fun q : Int × Int × Hp => ZV g x 3 q.2.2 9 [(0, (2, l0)), (1, (0, q.1)), (2, (0, q.2.1))] []) E y) : ZV g x 3 h 35 [(0, (2, l0)), (2, (0, l2))] [(0, s0), (0, s1)] := by
  unfold M_heads_j35 at hf
  refine z_ior X dX12_heads_35 ?_
  refine z_istore_n X dX12_heads_36 (by decide) (ls' := [(1, (0, i_or s1 s0)), (0, (2, l0)), (2, (0, l2))]) rfl ?_
  refine z_iinc X dX12_heads_37 2 rfl (by decide) (ls' := [(2, (0, w32 (l2 + 1))), (1, (0, i_or s1 s0)), (0, (2, l0))]) rfl ?_
  refine z_goto X dX12_heads_40 rfl ?_
  cases hf
  exact z_weak [2, 1, 0] rfl hk
set_option maxHeartbeats 4000000 in
set_option maxRecDepth 100000 in
theorem z_M_heads_L9 {g : GP} {x : CX} {d : Nat} (X : zX g x RX12 cX12_heads 3 (d + 1)) (hd : 2 ≤ d) (l0 : Int)  (E : Int × Hp → Prop) (hx0 : ∀ e : Int × Hp, E (e) → ZV g x 3 e.2 43 [(1, (0, e.1))] []) (l1 l2 : Int) (h : Hp) (y : (Int × Int × Hp) ⊕ (Int × Hp)) (hf : M_heads_L9 (d + 1) l0 l1 l2 h = some y) (hk : z_sum (fun q : Int × Int × Hp => ZV g x 3 q.2.2 9 [(0, (2, l0)), (1, (0, q.1)), (2, (0, q.2.1))] []) E y) : ZV g x 3 h 9 [(0, (2, l0)), (1, (0, l1)), (2, (0, l2))] [] := by
  unfold M_heads_L9 at hf
  refine z_iload_n X dX12_heads_9 2 rfl ?_
  refine z_aload_n X dX12_heads_10 0 rfl ?_
  obtain ⟨g2, hf⟩ := gif hf
  refine y_get X fl_RX12_249 dX12_heads_11 g2 ?_
  refine z_icmp_gt X dX12_heads_14 rfl (fun hc14 => ?_) (fun hc14 => ?_)
  · have hf := ift hc14 hf
    cases hf
    exact z_weak [1] rfl (hx0 _ hk)
  · have hf := iff' hc14 hf
    refine z_iload_n X dX12_heads_17 1 rfl ?_
    refine z_aload_n X dX12_heads_18 0 rfl ?_
    refine z_iload_n X dX12_heads_19 2 rfl ?_
    obtain ⟨r20, hr20, hf⟩ := obE hf
    refine y_V1 X cv_RX12_397 dX12_heads_20 g2 (c_M_waysOfAll d (Nat.le_trans (by decide) hd) l0 l2 h r20 hr20) (as := [(0, l2)]) rfl rfl (Nat.le_of_ble_eq_true rfl) z00 ?_
    refine z_lconst0 X dX12_heads_23 ?_
    refine z_l_le X dX12_heads_24 dX12_heads_25 rfl (fun hc24 => ?_) (fun hc24 => ?_)
    · rw [if_pos hc24] at hf
      refine z_iconst X dX12_heads_34 kc_0 ?_
      exact z_weak [0, 2] rfl (z_M_heads_j35 X hd l0 l2 0 l1 r20.2 _ hf E hx0 hk)
    · rw [if_neg hc24] at hf
      refine z_iconst X dX12_heads_28 kc_1 ?_
      refine z_iload_n X dX12_heads_29 2 rfl ?_
      refine z_ishl X dX12_heads_30 ?_
      refine z_goto X dX12_heads_31 rfl ?_
      exact z_weak [0, 2] rfl (z_M_heads_j35 X hd l0 l2 (i_shl 1 l2) l1 r20.2 _ hf E hx0 hk)
set_option maxHeartbeats 4000000 in
set_option maxRecDepth 100000 in
theorem c_M_heads {l : Launch} {g : GP} (d : Nat) (hd : 3 ≤ d) (l0 : Int) (h : Hp) (y : Int × Hp) (hf : M_heads d l0 h = some y) : zM l yX12_heads cX12_heads 3 (some .int) d 0 0 g 157 h [(2, l0)] 157 y.2 (some (0, y.1)) := by
  obtain ⟨d, rfl⟩ : ∃ k, d = k + 1 := ⟨d - 1, by omega⟩
  replace hd : 2 ≤ d := Nat.le_of_succ_le_succ hd
  refine z_start (by decide) (Nat.le_of_ble_eq_true rfl) (fun x X hK _ _ _ hl => ?_)
  show ZV g x 3 h 0 [(0, (2, l0))] []
  unfold M_heads at hf
  refine z_aload_n X dX12_heads_0 0 rfl ?_
  refine z_iconst X dX12_heads_1 kc_0 ?_
  obtain ⟨g1, hf⟩ := gif hf
  obtain ⟨r2, hr2, hf⟩ := obE hf
  refine y_V0 X cv_RX12_387 dX12_heads_2 g1 (c_M_looksAt d (Nat.le_trans (by decide) hd) l0 0 h r2 hr2) (as := [(0, 0)]) rfl rfl (Nat.le_of_ble_eq_true rfl) z00 ?_
  refine z_iconst X dX12_heads_5 kc_0 ?_
  refine z_istore_n X dX12_heads_6 (by decide) (ls' := [(1, (0, 0)), (0, (2, l0))]) rfl ?_
  refine z_iconst X dX12_heads_7 kc_0 ?_
  refine z_istore_n X dX12_heads_8 (by decide) (ls' := [(2, (0, 0)), (1, (0, 0)), (0, (2, l0))]) rfl ?_
  obtain ⟨q9, hq9, hf⟩ := obE hf
  have hx9_0 : ∀ e43 : Int × Hp, (e43 : Int × Hp) = q9 → ZV g x 3 e43.2 43 [(1, (0, e43.1))] [] := by
    intro e43 hq
    subst hq
    refine z_iload_n X dX12_heads_43 0 rfl ?_
    cases hf
    exact z_iret X hK dX12_heads_44
  exact z_weak [2, 1, 0] rfl (z_loop (Z := (fun q : Int × Int × Hp => ZV g x 3 q.2.2 9 [(0, (2, l0)), (1, (0, q.1)), (2, (0, q.2.1))] [])) (E := fun q => q = q9) (fun q y hb hk => z_M_heads_L9 X hd l0 (fun q => q = q9) hx9_0 q.1 q.2.1 q.2.2 y hb hk) LN (0, 0, r2) q9 hq9 rfl)
set_option maxHeartbeats 4000000 in
set_option maxRecDepth 100000 in
theorem c_M_ways {l : Launch} {g : GP} (d : Nat) (hd : 3 ≤ d) (l0 : Int) (h : Hp) (y : Int × Hp) (hf : M_ways d l0 h = some y) : zM l yX12_ways cX12_ways 1 (some .long) d 0 0 g 157 h [(2, l0)] 157 y.2 (some (1, y.1)) := by
  obtain ⟨d, rfl⟩ : ∃ k, d = k + 1 := ⟨d - 1, by omega⟩
  replace hd : 2 ≤ d := Nat.le_of_succ_le_succ hd
  refine z_start (by decide) (Nat.le_of_ble_eq_true rfl) (fun x X hK _ _ _ hl => ?_)
  show ZV g x 1 h 0 [(0, (2, l0))] []
  unfold M_ways at hf
  refine z_aload_n X dX12_ways_0 0 rfl ?_
  refine z_iconst X dX12_ways_1 kc_0 ?_
  obtain ⟨g1, hf⟩ := gif hf
  obtain ⟨r2, hr2, hf⟩ := obE hf
  refine y_V0 X cv_RX12_387 dX12_ways_2 g1 (c_M_looksAt d (Nat.le_trans (by decide) hd) l0 0 h r2 hr2) (as := [(0, 0)]) rfl rfl (Nat.le_of_ble_eq_true rfl) z00 ?_
  refine z_aload_n X dX12_ways_5 0 rfl ?_
  refine z_aload_n X dX12_ways_6 0 rfl ?_
  refine y_get X fl_RX12_249 dX12_ways_7 g1 ?_
  obtain ⟨r10, hr10, hf⟩ := obE hf
  refine y_V1 X cv_RX12_397 dX12_ways_10 g1 (c_M_waysOfAll d (Nat.le_trans (by decide) hd) l0 (r2 l0 34) r2 r10 hr10) (as := [(0, r2 l0 34)]) rfl rfl (Nat.le_of_ble_eq_true rfl) z00 ?_
  obtain ⟨r13, hr13, hf⟩ := obE hf
  refine y_S1 X cs_RX12_390 dX12_ways_13 (c_M_toldAs d (Nat.zero_le _) r10.1 r10.2 r13 hr13) (as := [(1, r10.1)]) rfl rfl (Nat.le_of_ble_eq_true rfl) z00 ?_
  cases hf
  exact z_lret X hK dX12_ways_16
set_option maxHeartbeats 4000000 in
set_option maxRecDepth 100000 in
theorem c_M_without {l : Launch} {g : GP} (d : Nat) (hd : 3 ≤ d) (l0 l1 : Int) (h : Hp) (y : Int × Hp) (hf : M_without d l0 l1 h = some y) : zM l yX12_without cX12_without 2 (some .long) d 0 0 g 157 h [(2, l0), (0, l1)] 157 y.2 (some (1, y.1)) := by
  obtain ⟨d, rfl⟩ : ∃ k, d = k + 1 := ⟨d - 1, by omega⟩
  replace hd : 2 ≤ d := Nat.le_of_succ_le_succ hd
  refine z_start (by decide) (Nat.le_of_ble_eq_true rfl) (fun x X hK _ _ _ hl => ?_)
  show ZV g x 2 h 0 [(0, (2, l0)), (1, (0, l1))] []
  unfold M_without at hf
  refine z_aload_n X dX12_without_0 0 rfl ?_
  refine z_iload_n X dX12_without_1 1 rfl ?_
  obtain ⟨g1, hf⟩ := gif hf
  obtain ⟨r2, hr2, hf⟩ := obE hf
  refine y_V1 X cv_RX12_18 dX12_without_2 g1 (c_M_isTree d (Nat.le_trans (by decide) hd) l0 l1 h r2 hr2) (as := [(0, l1)]) rfl rfl (Nat.le_of_ble_eq_true rfl) z00 ?_
  refine z_if_ne X dX12_without_5 rfl (fun hc5 => ?_) (fun hc5 => ?_)
  · have hf := iff' hc5 hf
    refine z_aload_n X dX12_without_12 0 rfl ?_
    refine z_iconst X dX12_without_13 kc_1 ?_
    refine z_iload_n X dX12_without_14 1 rfl ?_
    refine z_ishl X dX12_without_15 ?_
    obtain ⟨r16, hr16, hf⟩ := obE hf
    refine y_V0 X cv_RX12_387 dX12_without_16 g1 (c_M_looksAt d (Nat.le_trans (by decide) hd) l0 (i_shl 1 l1) h r16 hr16) (as := [(0, i_shl 1 l1)]) rfl rfl (Nat.le_of_ble_eq_true rfl) z00 ?_
    refine z_aload_n X dX12_without_19 0 rfl ?_
    refine z_aload_n X dX12_without_20 0 rfl ?_
    refine y_get X fl_RX12_249 dX12_without_21 g1 ?_
    obtain ⟨r24, hr24, hf⟩ := obE hf
    refine y_V1 X cv_RX12_397 dX12_without_24 g1 (c_M_waysOfAll d (Nat.le_trans (by decide) hd) l0 (r16 l0 34) r16 r24 hr24) (as := [(0, r16 l0 34)]) rfl rfl (Nat.le_of_ble_eq_true rfl) z00 ?_
    obtain ⟨r27, hr27, hf⟩ := obE hf
    refine y_S1 X cs_RX12_390 dX12_without_27 (c_M_toldAs d (Nat.zero_le _) r24.1 r24.2 r27 hr27) (as := [(1, r24.1)]) rfl rfl (Nat.le_of_ble_eq_true rfl) z00 ?_
    cases hf
    exact z_lret X hK dX12_without_30
  · have hf := ift hc5 hf
    refine z_ldc2 X kj_RX12_378 kl_m2 dX12_without_8 ?_
    cases hf
    exact z_lret X hK dX12_without_11
