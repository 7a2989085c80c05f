set_option maxHeartbeats 4000000 in
set_option maxRecDepth 100000 in
theorem z_X_knowMends_L26 {g : GP} {x : CX} {d : Nat} (X : zX g x RX11 cX11_knowMends 3 (d + 1)) (hd : 5 ≤ d) (l0 : Int)  (E : Hp → Prop) (hx0 : ∀ e : Hp, E (e) → ZV g x 3 e 121 [(0, (2, l0))] []) (l1 : Int) (h : Hp) (y : (Int × Hp) ⊕ (Hp)) (hf : X_knowMends_L26 l0 l1 h = some y) (hk : z_sum (fun q : Int × Hp => ZV g x 3 q.2 26 [(0, (2, l0)), (1, (0, q.1))] []) E y) : ZV g x 3 h 26 [(0, (2, l0)), (1, (0, l1))] [] := by
  unfold X_knowMends_L26 at hf
  refine z_iload_n X dX11_knowMends_26 1 rfl ?_
  refine z_aload_n X dX11_knowMends_27 0 rfl ?_
  obtain ⟨g4, hf⟩ := gif hf
  refine y_get X fl_RX11_21 dX11_knowMends_28 g4 ?_
  obtain ⟨g5, hf⟩ := gif hf
  refine y_get X fl_RX11_118 dX11_knowMends_31 g5 ?_
  refine z_icmp_ge X dX11_knowMends_34 rfl (fun hc34 => ?_) (fun hc34 => ?_)
  · have hf := ift hc34 hf
    cases hf
    exact z_weak [0] rfl (hx0 _ hk)
  · have hf := iff' hc34 hf
    refine z_iconst X dX11_knowMends_37 kc_0 ?_
    refine z_istore_n X dX11_knowMends_38 (by decide) (ls' := [(2, (0, 0)), (0, (2, l0)), (1, (0, l1))]) rfl ?_
    obtain ⟨q39, hq39, hf⟩ := obE hf
    have hx39_0 : ∀ e115 : Hp, (e115 : Hp) = q39 → ZV g x 3 e115 115 [(0, (2, l0)), (1, (0, l1))] [] := by
      intro e115 hq
      subst hq
      refine z_iinc X dX11_knowMends_115 1 rfl (by decide) (ls' := [(1, (0, w32 (l1 + 1))), (0, (2, l0))]) rfl ?_
      refine z_goto X dX11_knowMends_118 rfl ?_
      cases hf
      exact z_weak [1, 0] rfl hk
    exact z_weak [1, 2, 0] rfl (z_loop (Z := (fun q : Int × Hp => ZV g x 3 q.2 39 [(0, (2, l0)), (1, (0, l1)), (2, (0, q.1))] [])) (E := fun q => q = q39) (fun q y hb hk => z_X_knowMends_L39 X hd l0 l1 (fun q => q = q39) hx39_0 q.1 q.2 y hb hk) LN (0, h) q39 hq39 rfl)
set_option maxHeartbeats 4000000 in
set_option maxRecDepth 100000 in
theorem c_X_knowMends {l : Launch} {g : GP} (d : Nat) (hd : 6 ≤ d) (l0 : Int) (h : Hp) (y : Hp) (hf : X_knowMends l0 h = some y) : zM l yX11_knowMends cX11_knowMends 3 none d 0 0 g 157 h [(2, l0)] 157 y none := by
  obtain ⟨d, rfl⟩ : ∃ k, d = k + 1 := ⟨d - 1, by omega⟩
  replace hd : 5 ≤ d := Nat.le_of_succ_le_succ hd
  refine z_start (by decide) (Nat.le_of_ble_eq_true rfl) (fun x X hK _ _ _ hl => ?_)
  show ZV g x 3 h 0 [(0, (2, l0))] []
  unfold X_knowMends at hf
  refine z_aload_n X dX11_knowMends_0 0 rfl ?_
  refine z_bipush X dX11_knowMends_1 kb_32 kc_32 ?_
  obtain ⟨g1, hf⟩ := gif hf
  obtain ⟨r3, hr3, hf⟩ := obE hf
  refine y_V1 X cv_RX11_352 dX11_knowMends_3 g1 (c_X_learns d (Nat.zero_le _) l0 32 h r3 hr3) (as := [(0, 32)]) rfl rfl (Nat.le_of_ble_eq_true rfl) z00 ?_
  refine z_if_ne X dX11_knowMends_6 rfl (fun hc6 => ?_) (fun hc6 => ?_)
  · have hf := iff' hc6 hf
    refine z_aload_n X dX11_knowMends_10 0 rfl ?_
    refine y_get X fl_RX11_93 dX11_knowMends_11 g1 ?_
    refine z_iconst X dX11_knowMends_14 kc_5 ?_
    refine z_iconst X dX11_knowMends_15 kc_0 ?_
    obtain ⟨g2, hf⟩ := gif hf
    refine y_iast X dX11_knowMends_16 g2 ?_
    let h_1 : Hp := hput r3.2 (r3.2 l0 14) 5 0
    refine z_aload_n X dX11_knowMends_17 0 rfl ?_
    refine y_get X fl_RX11_57 dX11_knowMends_18 g1 ?_
    obtain ⟨g3, hf⟩ := gif hf
    obtain ⟨r21, hr21, hf⟩ := obE hf
    refine y_V0 X cv_RX11_362 dX11_knowMends_21 g3 (c_Ms_clear d (Nat.le_trans (by decide) hd) (h_1 l0 7) h_1 r21 hr21) (as := []) rfl rfl (Nat.le_of_ble_eq_true rfl) z00 ?_
    refine z_iconst X dX11_knowMends_24 kc_0 ?_
    refine z_istore_n X dX11_knowMends_25 (by decide) (ls' := [(1, (0, 0)), (0, (2, l0))]) rfl ?_
    obtain ⟨q26, hq26, hf⟩ := obE hf
    have hx26_0 : ∀ e121 : Hp, (e121 : Hp) = q26 → ZV g x 3 e121 121 [(0, (2, l0))] [] := by
      intro e121 hq
      subst hq
      refine z_aload_n X dX11_knowMends_121 0 rfl ?_
      refine z_iconst X dX11_knowMends_122 kc_5 ?_
      refine z_aload_n X dX11_knowMends_123 0 rfl ?_
      refine y_get X fl_RX11_21 dX11_knowMends_124 g1 ?_
      obtain ⟨g12, hf⟩ := gif hf
      refine y_get X fl_RX11_118 dX11_knowMends_127 g12 ?_
      obtain ⟨r130, hr130, hf⟩ := obE hf
      refine y_V0 X cv_RX11_370 dX11_knowMends_130 g1 (c_X_listRead d (Nat.le_trans (by decide) hd) l0 5 (e121 (e121 l0 2) 1) e121 r130 hr130) (as := [(0, 5), (0, e121 (e121 l0 2) 1)]) rfl rfl (Nat.le_of_ble_eq_true rfl) z00 ?_
      cases hf
      exact z_vret X hK dX11_knowMends_133
    exact z_weak [1, 0] rfl (z_loop (Z := (fun q : Int × Hp => ZV g x 3 q.2 26 [(0, (2, l0)), (1, (0, q.1))] [])) (E := fun q => q = q26) (fun q y hb hk => z_X_knowMends_L26 X hd l0 (fun q => q = q26) hx26_0 q.1 q.2 y hb hk) LN (0, r21) q26 hq26 rfl)
  · have hf := ift hc6 hf
    cases hf
    exact z_vret X hK dX11_knowMends_9
set_option maxHeartbeats 4000000 in
set_option maxRecDepth 100000 in
theorem c_X_mends {l : Launch} {g : GP} (d : Nat) (hd : 7 ≤ d) (l0 : Int) (h : Hp) (y : Int × Hp) (hf : X_mends l0 h = some y) : zM l yX11_mends cX11_mends 1 (some .int) d 0 0 g 157 h [(2, l0)] 157 y.2 (some (0, y.1)) := by
  obtain ⟨d, rfl⟩ : ∃ k, d = k + 1 := ⟨d - 1, by omega⟩
  replace hd : 6 ≤ d := Nat.le_of_succ_le_succ hd
  refine z_start (by decide) (Nat.le_of_ble_eq_true rfl) (fun x X hK _ _ _ hl => ?_)
  show ZV g x 1 h 0 [(0, (2, l0))] []
  unfold X_mends at hf
  refine z_aload_n X dX11_mends_0 0 rfl ?_
  obtain ⟨g1, hf⟩ := gif hf
  obtain ⟨r1, hr1, hf⟩ := obE hf
  refine y_V0 X cv_RX11_328 dX11_mends_1 g1 (c_X_knowMends d (Nat.le_trans (by decide) hd) l0 h r1 hr1) (as := []) rfl rfl (Nat.le_of_ble_eq_true rfl) z00 ?_
  refine z_aload_n X dX11_mends_4 0 rfl ?_
  refine y_get X fl_RX11_93 dX11_mends_5 g1 ?_
  refine z_iconst X dX11_mends_8 kc_5 ?_
  obtain ⟨g2, hf⟩ := gif hf
  refine y_iald X dX11_mends_9 g2 ?_
  cases hf
  exact z_iret X hK dX11_mends_10
set_option maxHeartbeats 4000000 in
set_option maxRecDepth 100000 in
theorem z_X_listedAt_j32 {g : GP} {x : CX} {d : Nat} (X : zX g x RX11 cX11_listedAt 3 d) (h : Hp) (y : Int) (hf : X_listedAt_j32 h = some y) (hK : zE g x (some .int) 0 0 157 h (some (0, y))) : ZV g x 3 h 32 [] [] := by
  unfold X_listedAt_j32 at hf
  refine z_iconst X dX11_listedAt_32 kc_m1 ?_
  cases hf
  exact z_iret X hK dX11_listedAt_33
set_option maxHeartbeats 4000000 in
set_option maxRecDepth 100000 in
theorem c_X_listedAt {l : Launch} {g : GP} (d : Nat) (hd : 0 ≤ d) (l0 l1 l2 : Int) (h : Hp) (y : Int) (hf : X_listedAt l0 l1 l2 h = some y) : zM l yX11_listedAt cX11_listedAt 3 (some .int) d 0 0 g 157 h [(2, l0), (0, l1), (0, l2)] 157 h (some (0, y)) := by
  refine z_start (by decide) (Nat.le_of_ble_eq_true rfl) (fun x X hK _ _ _ hl => ?_)
  show ZV g x 3 h 0 [(0, (2, l0)), (1, (0, l1)), (2, (0, l2))] []
  unfold X_listedAt at hf
  refine z_iload_n X dX11_listedAt_0 2 rfl ?_
  refine z_if_lt X dX11_listedAt_1 rfl (fun hc1 => ?_) (fun hc1 => ?_)
  · have hf := ift hc1 hf
    exact z_weak [] rfl (z_X_listedAt_j32 X  h _ hf hK)
  · have hf := iff' hc1 hf
    refine z_iload_n X dX11_listedAt_4 2 rfl ?_
    refine z_aload_n X dX11_listedAt_5 0 rfl ?_
    obtain ⟨g1, hf⟩ := gif hf
    refine y_get X fl_RX11_93 dX11_listedAt_6 g1 ?_
    refine z_iload_n X dX11_listedAt_9 1 rfl ?_
    obtain ⟨g2, hf⟩ := gif hf
    refine y_iald X dX11_listedAt_10 g2 ?_
    refine z_icmp_ge X dX11_listedAt_11 rfl (fun hc11 => ?_) (fun hc11 => ?_)
    · have hf := ift hc11 hf
      exact z_weak [] rfl (z_X_listedAt_j32 X  h _ hf hK)
    · have hf := iff' hc11 hf
      refine z_iload_n X dX11_listedAt_14 2 rfl ?_
      refine z_sipush X dX11_listedAt_15 ks_256 kc_256 ?_
      refine z_icmp_ge X dX11_listedAt_18 rfl (fun hc18 => ?_) (fun hc18 => ?_)
      · have hf := ift hc18 hf
        exact z_weak [] rfl (z_X_listedAt_j32 X  h _ hf hK)
      · have hf := iff' hc18 hf
        refine z_aload_n X dX11_listedAt_21 0 rfl ?_
        refine y_get X fl_RX11_90 dX11_listedAt_22 g1 ?_
        refine z_iload_n X dX11_listedAt_25 1 rfl ?_
        obtain ⟨g3, hf⟩ := gif hf
        refine y_aald X dX11_listedAt_26 g3 ?_
        refine z_iload_n X dX11_listedAt_27 2 rfl ?_
        obtain ⟨g4, hf⟩ := gif hf
        refine y_iald X dX11_listedAt_28 g4 ?_
        refine z_goto X dX11_listedAt_29 rfl ?_
        cases hf
        exact z_iret X hK dX11_listedAt_33
set_option maxHeartbeats 4000000 in
set_option maxRecDepth 100000 in
theorem c_X_mend {l : Launch} {g : GP} (d : Nat) (hd : 7 ≤ d) (l0 l1 : Int) (h : Hp) (y : Int × Hp) (hf : X_mend l0 l1 h = some y) : zM l yX11_mend cX11_mend 2 (some .int) d 0 0 g 157 h [(2, l0), (0, l1)] 157 y.2 (some (0, y.1)) := by
  obtain ⟨d, rfl⟩ : ∃ k, d = k + 1 := ⟨d - 1, by omega⟩
  replace hd : 6 ≤ d := Nat.le_of_succ_le_succ hd
  refine z_start (by decide) (Nat.le_of_ble_eq_true rfl) (fun x X hK _ _ _ hl => ?_)
  show ZV g x 2 h 0 [(0, (2, l0)), (1, (0, l1))] []
  unfold X_mend at hf
  refine z_iload_n X dX11_mend_0 1 rfl ?_
  refine z_if_ge X dX11_mend_1 rfl (fun hc1 => ?_) (fun hc1 => ?_)
  · have hf := ift hc1 hf
    refine z_aload_n X dX11_mend_7 0 rfl ?_
    obtain ⟨g1, hf⟩ := gif hf
    obtain ⟨r8, hr8, hf⟩ := obE hf
    refine y_V0 X cv_RX11_328 dX11_mend_8 g1 (c_X_knowMends d (Nat.le_trans (by decide) hd) l0 h r8 hr8) (as := []) rfl rfl (Nat.le_of_ble_eq_true rfl) z00 ?_
    refine z_aload_n X dX11_mend_11 0 rfl ?_
    refine z_iconst X dX11_mend_12 kc_5 ?_
    refine z_iload_n X dX11_mend_13 1 rfl ?_
    obtain ⟨r14, hr14, hf⟩ := obE hf
    refine y_V1 X cv_RX11_331 dX11_mend_14 g1 (c_X_listedAt d (Nat.zero_le _) l0 5 l1 r8 r14 hr14) (as := [(0, 5), (0, l1)]) rfl rfl (Nat.le_of_ble_eq_true rfl) z00 ?_
    cases hf
    exact z_iret X hK dX11_mend_17
  · have hf := iff' hc1 hf
    refine z_bipush X dX11_mend_4 kb_m2 kc_m2 ?_
    cases hf
    exact z_iret X hK dX11_mend_6
set_option maxHeartbeats 4000000 in
set_option maxRecDepth 100000 in
theorem c_JI_bitCount {l : Launch} {g : GP} (d : Nat) (hd : 0 ≤ d) (l0 : Int) (h : Hp) (y : Int) (hf : JI_bitCount l0 = some y) : zM l yJ6_bitCount_0f7a4 cJ6_bitCount_0f7a4 1 (some .int) d 0 0 g 157 h [(0, l0)] 157 h (some (0, y)) := by
  refine z_start (by decide) (Nat.le_of_ble_eq_true rfl) (fun x X hK _ _ _ hl => ?_)
  show ZV g x 1 h 0 [(0, (0, l0))] []
  unfold JI_bitCount at hf
  refine z_iload_n X dJ6_bitCount_0f7a4_0 0 rfl ?_
  refine z_iload_n X dJ6_bitCount_0f7a4_1 0 rfl ?_
  refine z_iconst X dJ6_bitCount_0f7a4_2 kc_1 ?_
  refine z_iushr X dJ6_bitCount_0f7a4_3 ?_
  refine z_ldcw X ki_RJ6_265 kc_1431655765 dJ6_bitCount_0f7a4_4 ?_
  refine z_iand X dJ6_bitCount_0f7a4_7 ?_
  refine z_isub X dJ6_bitCount_0f7a4_8 ?_
  refine z_istore_n X dJ6_bitCount_0f7a4_9 (by decide) (ls' := [(0, (0, w32 (l0 - (i_and (i_ushr l0 1) 1431655765))))]) rfl ?_
  refine z_iload_n X dJ6_bitCount_0f7a4_10 0 rfl ?_
  refine z_ldcw X ki_RJ6_266 kc_858993459 dJ6_bitCount_0f7a4_11 ?_
  refine z_iand X dJ6_bitCount_0f7a4_14 ?_
  refine z_iload_n X dJ6_bitCount_0f7a4_15 0 rfl ?_
  refine z_iconst X dJ6_bitCount_0f7a4_16 kc_2 ?_
  refine z_iushr X dJ6_bitCount_0f7a4_17 ?_
  refine z_ldcw X ki_RJ6_266 kc_858993459 dJ6_bitCount_0f7a4_18 ?_
  refine z_iand X dJ6_bitCount_0f7a4_21 ?_
  refine z_iadd X dJ6_bitCount_0f7a4_22 ?_
  refine z_istore_n X dJ6_bitCount_0f7a4_23 (by decide) (ls' := [(0, (0, w32 ((i_and (w32 (l0 - (i_and (i_ushr l0 1) 1431655765))) 858993459) + (i_and (i_ushr (w32 (l0 - (i_and (i_ushr l0 1) 1431655765))) 2) 858993459))))]) rfl ?_
  refine z_iload_n X dJ6_bitCount_0f7a4_24 0 rfl ?_
  refine z_iload_n X dJ6_bitCount_0f7a4_25 0 rfl ?_
  refine z_iconst X dJ6_bitCount_0f7a4_26 kc_4 ?_
  refine z_iushr X dJ6_bitCount_0f7a4_27 ?_
  refine z_iadd X dJ6_bitCount_0f7a4_28 ?_
  refine z_ldcw X ki_RJ6_267 kc_252645135 dJ6_bitCount_0f7a4_29 ?_
  refine z_iand X dJ6_bitCount_0f7a4_32 ?_
  refine z_istore_n X dJ6_bitCount_0f7a4_33 (by decide) (ls' := [(0, (0, i_and (w32 ((w32 ((i_and (w32 (l0 - (i_and (i_ushr l0 1) 1431655765))) 858993459) + (i_and (i_ushr (w32 (l0 - (i_and (i_ushr l0 1) 1431655765))) 2) 858993459))) + (i_ushr (w32 ((i_and (w32 (l0 - (i_and (i_ushr l0 1) 1431655765))) 858993459) + (i_and (i_ushr (w32 (l0 - (i_and (i_ushr l0 1) 1431655765))) 2) 858993459))) 4))) 252645135))]) rfl ?_
  refine z_iload_n X dJ6_bitCount_0f7a4_34 0 rfl ?_
  refine z_iload_n X dJ6_bitCount_0f7a4_35 0 rfl ?_
  refine z_bipush X dJ6_bitCount_0f7a4_36 kb_8 kc_8 ?_
  refine z_iushr X dJ6_bitCount_0f7a4_38 ?_
  refine z_iadd X dJ6_bitCount_0f7a4_39 ?_
  refine z_istore_n X dJ6_bitCount_0f7a4_40 (by decide) (ls' := [(0, (0, w32 ((i_and (w32 ((w32 ((i_and (w32 (l0 - (i_and (i_ushr l0 1) 1431655765))) 858993459) + (i_and (i_ushr (w32 (l0 - (i_and (i_ushr l0 1) 1431655765))) 2) 858993459))) + (i_ushr (w32 ((i_and (w32 (l0 - (i_and (i_ushr l0 1) 1431655765))) 858993459) + (i_and (i_ushr (w32 (l0 - (i_and (i_ushr l0 1) 1431655765))) 2) 858993459))) 4))) 252645135) + (i_ushr (i_and (w32 ((w32 ((i_and (w32 (l0 - (i_and (i_ushr l0 1) 1431655765))) 858993459) + (i_and (i_ushr (w32 (l0 - (i_and (i_ushr l0 1) 1431655765))) 2) 858993459))) + (i_ushr (w32 ((i_and (w32 (l0 - (i_and (i_ushr l0 1) 1431655765))) 858993459) + (i_and (i_ushr (w32 (l0 - (i_and (i_ushr l0 1) 1431655765))) 2) 858993459))) 4))) 252645135) 8))))]) rfl ?_
  refine z_iload_n X dJ6_bitCount_0f7a4_41 0 rfl ?_
  refine z_iload_n X dJ6_bitCount_0f7a4_42 0 rfl ?_
  refine z_bipush X dJ6_bitCount_0f7a4_43 kb_16 kc_16 ?_
  refine z_iushr X dJ6_bitCount_0f7a4_45 ?_
  refine z_iadd X dJ6_bitCount_0f7a4_46 ?_
  refine z_istore_n X dJ6_bitCount_0f7a4_47 (by decide) (ls' := [(0, (0, w32 ((w32 ((i_and (w32 ((w32 ((i_and (w32 (l0 - (i_and (i_ushr l0 1) 1431655765))) 858993459) + (i_and (i_ushr (w32 (l0 - (i_and (i_ushr l0 1) 1431655765))) 2) 858993459))) + (i_ushr (w32 ((i_and (w32 (l0 - (i_and (i_ushr l0 1) 1431655765))) 858993459) + (i_and (i_ushr (w32 (l0 - (i_and (i_ushr l0 1) 1431655765))) 2) 858993459))) 4))) 252645135) + (i_ushr (i_and (w32 ((w32 ((i_and (w32 (l0 - (i_and (i_ushr l0 1) 1431655765))) 858993459) + (i_and (i_ushr (w32 (l0 - (i_and (i_ushr l0 1) 1431655765))) 2) 858993459))) + (i_ushr (w32 ((i_and (w32 (l0 - (i_and (i_ushr l0 1) 1431655765))) 858993459) + (i_and (i_ushr (w32 (l0 - (i_and (i_ushr l0 1) 1431655765))) 2) 858993459))) 4))) 252645135) 8))) + (i_ushr (w32 ((i_and (w32 ((w32 ((i_and (w32 (l0 - (i_and (i_ushr l0 1) 1431655765))) 858993459) + (i_and (i_ushr (w32 (l0 - (i_and (i_ushr l0 1) 1431655765))) 2) 858993459))) + (i_ushr (w32 ((i_and (w32 (l0 - (i_and (i_ushr l0 1) 1431655765))) 858993459) + (i_and (i_ushr (w32 (l0 - (i_and (i_ushr l0 1) 1431655765))) 2) 858993459))) 4))) 252645135) + (i_ushr (i_and (w32 ((w32 ((i_and (w32 (l0 - (i_and (i_ushr l0 1) 1431655765))) 858993459) + (i_and (i_ushr (w32 (l0 - (i_and (i_ushr l0 1) 1431655765))) 2) 858993459))) + (i_ushr (w32 ((i_and (w32 (l0 - (i_and (i_ushr l0 1) 1431655765))) 858993459) + (i_and (i_ushr (w32 (l0 - (i_and (i_ushr l0 1) 1431655765))) 2) 858993459))) 4))) 252645135) 8))) 16))))]) rfl ?_
  refine z_iload_n X dJ6_bitCount_0f7a4_48 0 rfl ?_
  refine z_bipush X dJ6_bitCount_0f7a4_49 kb_63 kc_63 ?_
  refine z_iand X dJ6_bitCount_0f7a4_51 ?_
  cases hf
  exact z_iret X hK dJ6_bitCount_0f7a4_52
set_option maxHeartbeats 4000000 in
set_option maxRecDepth 100000 in
theorem z_X_knowSentences_L41 {g : GP} {x : CX} {d : Nat} (X : zX g x RX11 cX11_knowSentences 5 (d + 1)) (hd : 5 ≤ d) (l0 l1 l2 : Int) (h : Hp) (E : Int → Prop) (hx0 : ∀ e : Int, E (e) → ZV g x 5 h 57 [(0, (2, l0)), (1, (0, l1)), (2, (0, l2)), (3, (0, e))] []) (l3 l4 : Int) (y : (Int × Int) ⊕ (Int)) (hf : X_knowSentences_L41 l0 l1 l2 h l3 l4 = some y) (hk : z_sum (fun q : Int × Int => ZV g x 5 h 41 [(0, (2, l0)), (1, (0, l1)), (2, (0, l2)), (3, (0, q.1)), (4, (0, q.2))] []) E y) : ZV g x 5 h 41 [(0, (2, l0)), (1, (0, l1)), (2, (0, l2)), (3, (0, l3)), (4, (0, l4))] [] := by
  unfold X_knowSentences_L41 at hf
  refine z_iload X dX11_knowSentences_41 4 rfl ?_
  refine z_iload_n X dX11_knowSentences_43 1 rfl ?_
  refine z_icmp_ge X dX11_knowSentences_44 rfl (fun hc44 => ?_) (fun hc44 => ?_)
  · have hf := ift hc44 hf
    cases hf
    exact z_weak [0, 1, 2, 3] rfl (hx0 _ hk)
  · have hf := iff' hc44 hf
    refine z_iload_n X dX11_knowSentences_47 3 rfl ?_
    refine z_iload_n X dX11_knowSentences_48 2 rfl ?_
    refine z_imul X dX11_knowSentences_49 ?_
    refine z_istore_n X dX11_knowSentences_50 (by decide) (ls' := [(3, (0, w32 (l3 * l2))), (0, (2, l0)), (1, (0, l1)), (2, (0, l2)), (4, (0, l4))]) rfl ?_
    refine z_iinc X dX11_knowSentences_51 4 rfl (by decide) (ls' := [(4, (0, w32 (l4 + 1))), (3, (0, w32 (l3 * l2))), (0, (2, l0)), (1, (0, l1)), (2, (0, l2))]) rfl ?_
    refine z_goto X dX11_knowSentences_54 rfl ?_
    cases hf
    exact z_weak [2, 3, 4, 1, 0] rfl hk
set_option maxHeartbeats 4000000 in
set_option maxRecDepth 100000 in
theorem z_X_knowSentences_j102 {g : GP} {x : CX} {d : Nat} (X : zX g x RX11 cX11_knowSentences 5 (d + 1)) (hd : 5 ≤ d) (l0 l1 l2 l3 l4 : Int) (h : Hp) (y : (Int × Hp) ⊕ (Hp)) (hf : X_knowSentences_j102 l0 l1 l2 l3 l4 h = some y) (E : Hp → Prop) (hx0 : ∀ e : Hp, E (e) → ZV g x 5 e 108 [(0, (2, l0)), (1, (0, l1))] []) (hk : z_sum (fun q : Int × Hp => ZV g x 5 q.2 60 [(0, (2, l0)), (1, (0, l1)), (2, (0, l2)), (3, (0, l3)), (4, (0, q.1))] []) E y) : ZV g x 5 h 102 [(0, (2, l0)), (1, (0, l1)), (2, (0, l2)), (3, (0, l3)), (4, (0, l4))] [] := by
  unfold X_knowSentences_j102 at hf
  refine z_iinc X dX11_knowSentences_102 4 rfl (by decide) (ls' := [(4, (0, w32 (l4 + 1))), (0, (2, l0)), (1, (0, l1)), (2, (0, l2)), (3, (0, l3))]) rfl ?_
  refine z_goto X dX11_knowSentences_105 rfl ?_
  cases hf
  exact z_weak [1, 2, 3, 4, 0] rfl hk
set_option maxHeartbeats 4000000 in
set_option maxRecDepth 100000 in
theorem z_X_knowSentences_L60 {g : GP} {x : CX} {d : Nat} (X : zX g x RX11 cX11_knowSentences 5 (d + 1)) (hd : 5 ≤ d) (l0 l1 l2 l3 : Int)  (E : Hp → Prop) (hx0 : ∀ e : Hp, E (e) → ZV g x 5 e 108 [(0, (2, l0)), (1, (0, l1))] []) (l4 : Int) (h : Hp) (y : (Int × Hp) ⊕ (Hp)) (hf : X_knowSentences_L60 l0 l1 l2 l3 l4 h = some y) (hk : z_sum (fun q : Int × Hp => ZV g x 5 q.2 60 [(0, (2, l0)), (1, (0, l1)), (2, (0, l2)), (3, (0, l3)), (4, (0, q.1))] []) E y) : ZV g x 5 h 60 [(0, (2, l0)), (1, (0, l1)), (2, (0, l2)), (3, (0, l3)), (4, (0, l4))] [] := by
  unfold X_knowSentences_L60 at hf
  refine z_iload X dX11_knowSentences_60 4 rfl ?_
  refine z_iload_n X dX11_knowSentences_62 3 rfl ?_
  refine z_icmp_ge X dX11_knowSentences_63 rfl (fun hc63 => ?_) (fun hc63 => ?_)
  · have hf := ift hc63 hf
    cases hf
    exact z_weak [0, 1] rfl (hx0 _ hk)
  · have hf := iff' hc63 hf
    refine z_aload_n X dX11_knowSentences_66 0 rfl ?_
    obtain ⟨g5, hf⟩ := gif hf
    refine y_get X fl_RX11_57 dX11_knowSentences_67 g5 ?_
    refine z_aload_n X dX11_knowSentences_70 0 rfl ?_
    refine y_get X fl_RX11_100 dX11_knowSentences_71 g5 ?_
    obtain ⟨g6, hf⟩ := gif hf
    refine y_get X fl_RX11_164 dX11_knowSentences_74 g6 ?_
    refine z_iload_n X dX11_knowSentences_77 2 rfl ?_
    refine z_iload_n X dX11_knowSentences_78 1 rfl ?_
    refine z_iload X dX11_knowSentences_79 4 rfl ?_
    obtain ⟨g7, hf⟩ := gif hf
    obtain ⟨r81, hr81, hf⟩ := obE hf
    refine y_V0 X cv_RX11_374 dX11_knowSentences_81 g7 (c_Ms_addSentence d (Nat.le_trans (by decide) hd) (h l0 7) (h (h l0 15) 5) l2 l1 l4 h r81 hr81) (as := [(0, h (h l0 15) 5), (0, l2), (0, l1), (0, l4)]) rfl rfl (Nat.le_of_ble_eq_true rfl) z00 ?_
    refine z_aload_n X dX11_knowSentences_84 0 rfl ?_
    refine y_get X fl_RX11_57 dX11_knowSentences_85 g5 ?_
    obtain ⟨g8, hf⟩ := gif hf
    refine y_get X fl_RX11_369 dX11_knowSentences_88 g8 ?_
    refine z_bipush X dX11_knowSentences_91 kb_64 kc_64 ?_
    refine z_icmp_ne X dX11_knowSentences_93 rfl (fun hc93 => ?_) (fun hc93 => ?_)
    · have hf := iff' hc93 hf
      exact (z_X_knowSentences_j102 X hd l0 l1 l2 l3 l4 r81 _ hf E hx0 hk)
    · have hf := ift hc93 hf
      refine z_aload_n X dX11_knowSentences_96 0 rfl ?_
      refine z_iload_n X dX11_knowSentences_97 1 rfl ?_
      refine z_iload_n X dX11_knowSentences_98 1 rfl ?_
      obtain ⟨r99, hr99, hf⟩ := obE hf
      refine y_V0 X cv_RX11_370 dX11_knowSentences_99 g5 (c_X_listRead d (Nat.le_trans (by decide) hd) l0 l1 l1 r81 r99 hr99) (as := [(0, l1), (0, l1)]) rfl rfl (Nat.le_of_ble_eq_true rfl) z00 ?_
      exact (z_X_knowSentences_j102 X hd l0 l1 l2 l3 l4 r99 _ hf E hx0 hk)
set_option maxHeartbeats 4000000 in
set_option maxRecDepth 100000 in
theorem c_X_knowSentences {l : Launch} {g : GP} (d : Nat) (hd : 6 ≤ d) (l0 l1 : Int) (h : Hp) (y : Hp) (hf : X_knowSentences l0 l1 h = some y) : zM l yX11_knowSentences cX11_knowSentences 5 none d 0 0 g 157 h [(2, l0), (0, l1)] 157 y none := by
  obtain ⟨d, rfl⟩ : ∃ k, d = k + 1 := ⟨d - 1, by omega⟩
  replace hd : 5 ≤ d := Nat.le_of_succ_le_succ hd
  refine z_start (by decide) (Nat.le_of_ble_eq_true rfl) (fun x X hK _ _ _ hl => ?_)
  show ZV g x 5 h 0 [(0, (2, l0)), (1, (0, l1))] []
  unfold X_knowSentences at hf
  refine z_aload_n X dX11_knowSentences_0 0 rfl ?_
  refine z_iconst X dX11_knowSentences_1 kc_1 ?_
  refine z_iload_n X dX11_knowSentences_2 1 rfl ?_
  refine z_ishl X dX11_knowSentences_3 ?_
  obtain ⟨g1, hf⟩ := gif hf
  obtain ⟨r4, hr4, hf⟩ := obE hf
  refine y_V1 X cv_RX11_352 dX11_knowSentences_4 g1 (c_X_learns d (Nat.zero_le _) l0 (i_shl 1 l1) h r4 hr4) (as := [(0, i_shl 1 l1)]) rfl rfl (Nat.le_of_ble_eq_true rfl) z00 ?_
  refine z_if_ne X dX11_knowSentences_7 rfl (fun hc7 => ?_) (fun hc7 => ?_)
  · have hf := iff' hc7 hf
    refine z_aload_n X dX11_knowSentences_11 0 rfl ?_
    refine y_get X fl_RX11_93 dX11_knowSentences_12 g1 ?_
    refine z_iload_n X dX11_knowSentences_15 1 rfl ?_
    refine z_iconst X dX11_knowSentences_16 kc_0 ?_
    obtain ⟨g2, hf⟩ := gif hf
    refine y_iast X dX11_knowSentences_17 g2 ?_
    let h_1 : Hp := hput r4.2 (r4.2 l0 14) l1 0
    refine z_aload_n X dX11_knowSentences_18 0 rfl ?_
    refine y_get X fl_RX11_57 dX11_knowSentences_19 g1 ?_
    obtain ⟨g3, hf⟩ := gif hf
    obtain ⟨r22, hr22, hf⟩ := obE hf
    refine y_V0 X cv_RX11_362 dX11_knowSentences_22 g3 (c_Ms_clear d (Nat.le_trans (by decide) hd) (h_1 l0 7) h_1 r22 hr22) (as := []) rfl rfl (Nat.le_of_ble_eq_true rfl) z00 ?_
    refine z_aload_n X dX11_knowSentences_25 0 rfl ?_
    refine y_get X fl_RX11_100 dX11_knowSentences_26 g1 ?_
    obtain ⟨g4, hf⟩ := gif hf
    refine y_get X fl_RX11_164 dX11_knowSentences_29 g4 ?_
    obtain ⟨r32, hr32, hf⟩ := obE hf
    refine y_S1 X cs_RX11_334 dX11_knowSentences_32 (c_JI_bitCount d (Nat.zero_le _) (r22 (r22 l0 15) 5) r22 r32 hr32) (as := [(0, r22 (r22 l0 15) 5)]) rfl rfl (Nat.le_of_ble_eq_true rfl) z00 ?_
    refine z_istore_n X dX11_knowSentences_35 (by decide) (ls' := [(2, (0, r32)), (0, (2, l0)), (1, (0, l1))]) rfl ?_
    refine z_iconst X dX11_knowSentences_36 kc_1 ?_
    refine z_istore_n X dX11_knowSentences_37 (by decide) (ls' := [(3, (0, 1)), (2, (0, r32)), (0, (2, l0)), (1, (0, l1))]) rfl ?_
    refine z_iconst X dX11_knowSentences_38 kc_0 ?_
    refine z_istore X dX11_knowSentences_39 (by decide) (ls' := [(4, (0, 0)), (3, (0, 1)), (2, (0, r32)), (0, (2, l0)), (1, (0, l1))]) rfl ?_
    obtain ⟨q41, hq41, hf⟩ := obE hf
    have hx41_0 : ∀ e57 : Int, (e57 : Int) = q41 → ZV g x 5 r22 57 [(0, (2, l0)), (1, (0, l1)), (2, (0, r32)), (3, (0, e57))] [] := by
      intro e57 hq
      subst hq
      refine z_iconst X dX11_knowSentences_57 kc_0 ?_
      refine z_istore X dX11_knowSentences_58 (by decide) (ls' := [(4, (0, 0)), (0, (2, l0)), (1, (0, l1)), (2, (0, r32)), (3, (0, e57))]) rfl ?_
      obtain ⟨q60, hq60, hf⟩ := obE hf
      have hx60_0 : ∀ e108 : Hp, (e108 : Hp) = q60 → ZV g x 5 e108 108 [(0, (2, l0)), (1, (0, l1))] [] := by
        intro e108 hq
        subst hq
        refine z_aload_n X dX11_knowSentences_108 0 rfl ?_
        refine z_iload_n X dX11_knowSentences_109 1 rfl ?_
        refine z_iload_n X dX11_knowSentences_110 1 rfl ?_
        obtain ⟨r111, hr111, hf⟩ := obE hf
        refine y_V0 X cv_RX11_370 dX11_knowSentences_111 g1 (c_X_listRead d (Nat.le_trans (by decide) hd) l0 l1 l1 e108 r111 hr111) (as := [(0, l1), (0, l1)]) rfl rfl (Nat.le_of_ble_eq_true rfl) z00 ?_
        cases hf
        exact z_vret X hK dX11_knowSentences_114
      exact z_weak [1, 2, 3, 4, 0] rfl (z_loop (Z := (fun q : Int × Hp => ZV g x 5 q.2 60 [(0, (2, l0)), (1, (0, l1)), (2, (0, r32)), (3, (0, e57)), (4, (0, q.1))] [])) (E := fun q => q = q60) (fun q y hb hk => z_X_knowSentences_L60 X hd l0 l1 r32 e57 (fun q => q = q60) hx60_0 q.1 q.2 y hb hk) LN (0, r22) q60 hq60 rfl)
    exact z_weak [3, 4, 2, 1, 0] rfl (z_loop (Z := (fun q : Int × Int => ZV g x 5 r22 41 [(0, (2, l0)), (1, (0, l1)), (2, (0, r32)), (3, (0, q.1)), (4, (0, q.2))] [])) (E := fun q => q = q41) (fun q y hb hk => z_X_knowSentences_L41 X hd l0 l1 r32 r22 (fun q => q = q41) hx41_0 q.1 q.2 y hb hk) LN (1, 0) q41 hq41 rfl)
  · have hf := ift hc7 hf
    cases hf
    exact z_vret X hK dX11_knowSentences_10
set_option maxHeartbeats 4000000 in
set_option maxRecDepth 100000 in
theorem c_X_sentences {l : Launch} {g : GP} (d : Nat) (hd : 7 ≤ d) (l0 l1 : Int) (h : Hp) (y : Int × Hp) (hf : X_sentences l0 l1 h = some y) : zM l yX11_sentences cX11_sentences 2 (some .int) d 0 0 g 157 h [(2, l0), (0, l1)] 157 y.2 (some (0, y.1)) := by
  obtain ⟨d, rfl⟩ : ∃ k, d = k + 1 := ⟨d - 1, by omega⟩
  replace hd : 6 ≤ d := Nat.le_of_succ_le_succ hd
  refine z_start (by decide) (Nat.le_of_ble_eq_true rfl) (fun x X hK _ _ _ hl => ?_)
  show ZV g x 2 h 0 [(0, (2, l0)), (1, (0, l1))] []
  unfold X_sentences at hf
  refine z_iload_n X dX11_sentences_0 1 rfl ?_
  refine z_if_lt X dX11_sentences_1 rfl (fun hc1 => ?_) (fun hc1 => ?_)
  · have hf := ift hc1 hf
    refine z_bipush X dX11_sentences_9 kb_m2 kc_m2 ?_
    cases hf
    exact z_iret X hK dX11_sentences_11
  · have hf := iff' hc1 hf
    refine z_iload_n X dX11_sentences_4 1 rfl ?_
    refine z_iconst X dX11_sentences_5 kc_4 ?_
    refine z_icmp_le X dX11_sentences_6 rfl (fun hc6 => ?_) (fun hc6 => ?_)
    · have hf := ift hc6 hf
      refine z_aload_n X dX11_sentences_12 0 rfl ?_
      obtain ⟨g1, hf⟩ := gif hf
      refine y_get X fl_RX11_100 dX11_sentences_13 g1 ?_
      obtain ⟨g2, hf⟩ := gif hf
      refine y_get X fl_RX11_164 dX11_sentences_16 g2 ?_
      obtain ⟨r19, hr19, hf⟩ := obE hf
      refine y_S1 X cs_RX11_334 dX11_sentences_19 (c_JI_bitCount d (Nat.zero_le _) (h (h l0 15) 5) h r19 hr19) (as := [(0, h (h l0 15) 5)]) rfl rfl (Nat.le_of_ble_eq_true rfl) z00 ?_
      refine z_iconst X dX11_sentences_22 kc_4 ?_
      refine z_icmp_le X dX11_sentences_23 rfl (fun hc23 => ?_) (fun hc23 => ?_)
      · have hf := ift hc23 hf
        refine z_aload_n X dX11_sentences_29 0 rfl ?_
        refine z_iload_n X dX11_sentences_30 1 rfl ?_
        obtain ⟨r31, hr31, hf⟩ := obE hf
        refine y_V0 X cv_RX11_339 dX11_sentences_31 g1 (c_X_knowSentences d (Nat.le_trans (by decide) hd) l0 l1 h r31 hr31) (as := [(0, l1)]) rfl rfl (Nat.le_of_ble_eq_true rfl) z00 ?_
        refine z_aload_n X dX11_sentences_34 0 rfl ?_
        refine y_get X fl_RX11_93 dX11_sentences_35 g1 ?_
        refine z_iload_n X dX11_sentences_38 1 rfl ?_
        obtain ⟨g3, hf⟩ := gif hf
        refine y_iald X dX11_sentences_39 g3 ?_
        cases hf
        exact z_iret X hK dX11_sentences_40
      · have hf := iff' hc23 hf
        refine z_bipush X dX11_sentences_26 kb_m5 kc_m5 ?_
        cases hf
        exact z_iret X hK dX11_sentences_28
    · have hf := iff' hc6 hf
      refine z_bipush X dX11_sentences_9 kb_m2 kc_m2 ?_
      cases hf
      exact z_iret X hK dX11_sentences_11
set_option maxHeartbeats 4000000 in
set_option maxRecDepth 100000 in
theorem c_X_sentence {l : Launch} {g : GP} (d : Nat) (hd : 7 ≤ d) (l0 l1 l2 : Int) (h : Hp) (y : Int × Hp) (hf : X_sentence l0 l1 l2 h = some y) : zM l yX11_sentence cX11_sentence 3 (some .int) d 0 0 g 157 h [(2, l0), (0, l1), (0, l2)] 157 y.2 (some (0, y.1)) := by
  obtain ⟨d, rfl⟩ : ∃ k, d = k + 1 := ⟨d - 1, by omega⟩
  replace hd : 6 ≤ d := Nat.le_of_succ_le_succ hd
  refine z_start (by decide) (Nat.le_of_ble_eq_true rfl) (fun x X hK _ _ _ hl => ?_)
  show ZV g x 3 h 0 [(0, (2, l0)), (1, (0, l1)), (2, (0, l2))] []
  unfold X_sentence at hf
  refine z_iload_n X dX11_sentence_0 1 rfl ?_
  refine z_if_lt X dX11_sentence_1 rfl (fun hc1 => ?_) (fun hc1 => ?_)
  · have hf := ift hc1 hf
    refine z_bipush X dX11_sentence_13 kb_m2 kc_m2 ?_
    cases hf
    exact z_iret X hK dX11_sentence_15
  · have hf := iff' hc1 hf
    refine z_iload_n X dX11_sentence_4 1 rfl ?_
    refine z_iconst X dX11_sentence_5 kc_4 ?_
    refine z_icmp_gt X dX11_sentence_6 rfl (fun hc6 => ?_) (fun hc6 => ?_)
    · have hf := ift hc6 hf
      refine z_bipush X dX11_sentence_13 kb_m2 kc_m2 ?_
      cases hf
      exact z_iret X hK dX11_sentence_15
    · have hf := iff' hc6 hf
      refine z_iload_n X dX11_sentence_9 2 rfl ?_
      refine z_if_ge X dX11_sentence_10 rfl (fun hc10 => ?_) (fun hc10 => ?_)
      · have hf := ift hc10 hf
        refine z_aload_n X dX11_sentence_16 0 rfl ?_
        obtain ⟨g1, hf⟩ := gif hf
        refine y_get X fl_RX11_100 dX11_sentence_17 g1 ?_
        obtain ⟨g2, hf⟩ := gif hf
        refine y_get X fl_RX11_164 dX11_sentence_20 g2 ?_
        obtain ⟨r23, hr23, hf⟩ := obE hf
        refine y_S1 X cs_RX11_334 dX11_sentence_23 (c_JI_bitCount d (Nat.zero_le _) (h (h l0 15) 5) h r23 hr23) (as := [(0, h (h l0 15) 5)]) rfl rfl (Nat.le_of_ble_eq_true rfl) z00 ?_
        refine z_iconst X dX11_sentence_26 kc_4 ?_
        refine z_icmp_le X dX11_sentence_27 rfl (fun hc27 => ?_) (fun hc27 => ?_)
        · have hf := ift hc27 hf
          refine z_aload_n X dX11_sentence_33 0 rfl ?_
          refine z_iload_n X dX11_sentence_34 1 rfl ?_
          obtain ⟨r35, hr35, hf⟩ := obE hf
          refine y_V0 X cv_RX11_339 dX11_sentence_35 g1 (c_X_knowSentences d (Nat.le_trans (by decide) hd) l0 l1 h r35 hr35) (as := [(0, l1)]) rfl rfl (Nat.le_of_ble_eq_true rfl) z00 ?_
          refine z_aload_n X dX11_sentence_38 0 rfl ?_
          refine z_iload_n X dX11_sentence_39 1 rfl ?_
          refine z_iload_n X dX11_sentence_40 2 rfl ?_
          obtain ⟨r41, hr41, hf⟩ := obE hf
          refine y_V1 X cv_RX11_331 dX11_sentence_41 g1 (c_X_listedAt d (Nat.zero_le _) l0 l1 l2 r35 r41 hr41) (as := [(0, l1), (0, l2)]) rfl rfl (Nat.le_of_ble_eq_true rfl) z00 ?_
          cases hf
          exact z_iret X hK dX11_sentence_44
        · have hf := iff' hc27 hf
          refine z_bipush X dX11_sentence_30 kb_m5 kc_m5 ?_
          cases hf
          exact z_iret X hK dX11_sentence_32
      · have hf := iff' hc10 hf
        refine z_bipush X dX11_sentence_13 kb_m2 kc_m2 ?_
        cases hf
        exact z_iret X hK dX11_sentence_15
set_option maxHeartbeats 4000000 in
set_option maxRecDepth 100000 in
theorem c_X_used {l : Launch} {g : GP} (d : Nat) (hd : 6 ≤ d) (l0 l1 : Int) (h : Hp) (y : Int × Hp) (hf : X_used l0 l1 h = some y) : zM l yX11_used cX11_used 2 (some .int) d 0 0 g 157 h [(2, l0), (0, l1)] 157 y.2 (some (0, y.1)) := by
  obtain ⟨d, rfl⟩ : ∃ k, d = k + 1 := ⟨d - 1, by omega⟩
  replace hd : 5 ≤ d := Nat.le_of_succ_le_succ hd
  refine z_start (by decide) (Nat.le_of_ble_eq_true rfl) (fun x X hK _ _ _ hl => ?_)
  show ZV g x 2 h 0 [(0, (2, l0)), (1, (0, l1))] []
  unfold X_used at hf
  refine z_iload_n X dX11_used_0 1 rfl ?_
  refine z_if_lt X dX11_used_1 rfl (fun hc1 => ?_) (fun hc1 => ?_)
  · have hf := ift hc1 hf
    refine z_bipush X dX11_used_9 kb_m2 kc_m2 ?_
    cases hf
    exact z_iret X hK dX11_used_11
  · have hf := iff' hc1 hf
    refine z_iload_n X dX11_used_4 1 rfl ?_
    refine z_iconst X dX11_used_5 kc_1 ?_
    refine z_icmp_le X dX11_used_6 rfl (fun hc6 => ?_) (fun hc6 => ?_)
    · have hf := ift hc6 hf
      refine z_aload_n X dX11_used_12 0 rfl ?_
      obtain ⟨g1, hf⟩ := gif hf
      obtain ⟨r13, hr13, hf⟩ := obE hf
      refine y_V0 X cv_RX11_251 dX11_used_13 g1 (c_X_knowSummary d (Nat.le_trans (by decide) hd) l0 h r13 hr13) (as := []) rfl rfl (Nat.le_of_ble_eq_true rfl) z00 ?_
      refine z_iload_n X dX11_used_16 1 rfl ?_
      refine z_if_ne X dX11_used_17 rfl (fun hc17 => ?_) (fun hc17 => ?_)
      · have hf := iff' hc17 hf
        refine z_aload_n X dX11_used_30 0 rfl ?_
        refine y_get X fl_RX11_254 dX11_used_31 g1 ?_
        obtain ⟨r34, hr34, hf⟩ := obE hf
        refine y_S1 X cs_RX11_345 dX11_used_34 (c_Su_every d (Nat.zero_le _) (r13 l0 18) r13 r34 hr34) (as := [(1, r13 l0 18)]) rfl rfl (Nat.le_of_ble_eq_true rfl) z00 ?_
        cases hf
        exact z_iret X hK dX11_used_37
      · have hf := ift hc17 hf
        refine z_aload_n X dX11_used_20 0 rfl ?_
        refine y_get X fl_RX11_254 dX11_used_21 g1 ?_
        obtain ⟨r24, hr24, hf⟩ := obE hf
        refine y_S1 X cs_RX11_342 dX11_used_24 (c_Su_some d (Nat.zero_le _) (r13 l0 18) r13 r24 hr24) (as := [(1, r13 l0 18)]) rfl rfl (Nat.le_of_ble_eq_true rfl) z00 ?_
        refine z_goto X dX11_used_27 rfl ?_
        cases hf
        exact z_iret X hK dX11_used_37
    · have hf := iff' hc6 hf
      refine z_bipush X dX11_used_9 kb_m2 kc_m2 ?_
      cases hf
      exact z_iret X hK dX11_used_11
set_option maxHeartbeats 4000000 in
set_option maxRecDepth 100000 in
theorem z_M_in_j17 {g : GP} {x : CX} {d : Nat} (X : zX g x RX12 cX12_in 6 d) (h : Hp) (y : Int) (hf : M_in_j17  = some y) (hK : zE g x (some .boolean) 0 0 157 h (some (0, y))) : ZV g x 6 h 17 [] [] := by
  unfold M_in_j17 at hf
  refine z_iconst X dX12_in_17 kc_0 ?_
  cases hf
  exact z_zret X hK (Or.inl rfl) dX12_in_18
set_option maxHeartbeats 4000000 in
set_option maxRecDepth 100000 in
theorem c_M_in {l : Launch} {g : GP} (d : Nat) (hd : 0 ≤ d) (l0 l2 l4 : Int) (h : Hp) (y : Int) (hf : M_in l0 l2 l4 = some y) : zM l yX12_in cX12_in 6 (some .boolean) d 0 0 g 157 h [(1, l0), (1, l2), (1, l4)] 157 h (some (0, y)) := by
  refine z_start (by decide) (Nat.le_of_ble_eq_true rfl) (fun x X hK _ _ _ hl => ?_)
  show ZV g x 6 h 0 [(0, (1, l0)), (2, (1, l2)), (4, (1, l4))] []
  unfold M_in at hf
  refine z_lload_n X dX12_in_0 0 rfl ?_
  refine z_lload_n X dX12_in_1 1 rfl ?_
  refine z_l_lt X dX12_in_2 dX12_in_3 rfl (fun hc2 => ?_) (fun hc2 => ?_)
  · have hf := ift hc2 hf
    exact z_weak [] rfl (z_M_in_j17 X  h _ hf hK)
  · have hf := iff' hc2 hf
    refine z_lload_n X dX12_in_6 0 rfl ?_
    refine z_lload X dX12_in_7 2 rfl ?_
    refine z_l_gt X dX12_in_9 dX12_in_10 rfl (fun hc9 => ?_) (fun hc9 => ?_)
    · have hf := ift hc9 hf
      exact z_weak [] rfl (z_M_in_j17 X  h _ hf hK)
    · have hf := iff' hc9 hf
      refine z_iconst X dX12_in_13 kc_1 ?_
      refine z_goto X dX12_in_14 rfl ?_
      cases hf
      exact z_zret X hK (Or.inr rfl) dX12_in_18
set_option maxHeartbeats 4000000 in
set_option maxRecDepth 100000 in
theorem c_M_root {l : Launch} {g : GP} (d : Nat) (hd : 0 ≤ d) (l0 l1 : Int) (h : Hp) (y : Int) (hf : M_root l0 l1 h = some y) : zM l yX12_root cX12_root 2 (some .int) d 0 0 g 157 h [(2, l0), (0, l1)] 157 h (some (0, y)) := by
  refine z_start (by decide) (Nat.le_of_ble_eq_true rfl) (fun x X hK _ _ _ hl => ?_)
  show ZV g x 2 h 0 [(0, (2, l0)), (1, (0, l1))] []
  unfold M_root at hf
  refine z_aload_n X dX12_root_0 0 rfl ?_
  obtain ⟨g1, hf⟩ := gif hf
  refine y_get X fl_RX12_7 dX12_root_1 g1 ?_
  refine z_iload_n X dX12_root_4 1 rfl ?_
  obtain ⟨g2, hf⟩ := gif hf
  refine y_iald X dX12_root_5 g2 ?_
  cases hf
  exact z_iret X hK dX12_root_6
set_option maxHeartbeats 4000000 in
set_option maxRecDepth 100000 in
theorem c_M_nodesOf {l : Launch} {g : GP} (d : Nat) (hd : 0 ≤ d) (l0 l1 : Int) (h : Hp) (y : Int) (hf : M_nodesOf l0 l1 h = some y) : zM l yX12_nodesOf cX12_nodesOf 2 (some .int) d 0 0 g 157 h [(2, l0), (0, l1)] 157 h (some (0, y)) := by
  refine z_start (by decide) (Nat.le_of_ble_eq_true rfl) (fun x X hK _ _ _ hl => ?_)
  show ZV g x 2 h 0 [(0, (2, l0)), (1, (0, l1))] []
  unfold M_nodesOf at hf
  refine z_aload_n X dX12_nodesOf_0 0 rfl ?_
  obtain ⟨g1, hf⟩ := gif hf
  refine y_get X fl_RX12_7 dX12_nodesOf_1 g1 ?_
  refine z_iload_n X dX12_nodesOf_4 1 rfl ?_
  refine z_iconst X dX12_nodesOf_5 kc_1 ?_
  refine z_iadd X dX12_nodesOf_6 ?_
  obtain ⟨g2, hf⟩ := gif hf
  refine y_iald X dX12_nodesOf_7 g2 ?_
  refine z_aload_n X dX12_nodesOf_8 0 rfl ?_
  refine y_get X fl_RX12_7 dX12_nodesOf_9 g1 ?_
  refine z_iload_n X dX12_nodesOf_12 1 rfl ?_
  obtain ⟨g3, hf⟩ := gif hf
  refine y_iald X dX12_nodesOf_13 g3 ?_
  refine z_isub X dX12_nodesOf_14 ?_
  cases hf
  exact z_iret X hK dX12_nodesOf_15
set_option maxHeartbeats 4000000 in
set_option maxRecDepth 100000 in
theorem c_M_isTree {l : Launch} {g : GP} (d : Nat) (hd : 1 ≤ d) (l0 l1 : Int) (h : Hp) (y : Int) (hf : M_isTree l0 l1 h = some y) : zM l yX12_isTree cX12_isTree 2 (some .boolean) d 0 0 g 157 h [(2, l0), (0, l1)] 157 h (some (0, y)) := by
  obtain ⟨d, rfl⟩ : ∃ k, d = k + 1 := ⟨d - 1, by omega⟩
  replace hd : 0 ≤ d := Nat.le_of_succ_le_succ hd
  refine z_start (by decide) (Nat.le_of_ble_eq_true rfl) (fun x X hK _ _ _ hl => ?_)
  show ZV g x 2 h 0 [(0, (2, l0)), (1, (0, l1))] []
  unfold M_isTree at hf
  refine z_iload_n X dX12_isTree_0 1 rfl ?_
  refine z_i2l X dX12_isTree_1 ?_
  refine z_lconst0 X dX12_isTree_2 ?_
  refine z_aload_n X dX12_isTree_3 0 rfl ?_
  obtain ⟨g1, hf⟩ := gif hf
  refine y_get X fl_RX12_11 dX12_isTree_4 g1 ?_
  refine z_iconst X dX12_isTree_7 kc_1 ?_
  refine z_isub X dX12_isTree_8 ?_
  refine z_i2l X dX12_isTree_9 ?_
  obtain ⟨r10, hr10, hf⟩ := obE hf
  refine y_S1 X cs_RX12_14 dX12_isTree_10 (c_M_in d (Nat.zero_le _) l1 0 (w32 ((h l0 1) - 1)) h r10 hr10) (as := [(1, l1), (1, 0), (1, w32 ((h l0 1) - 1))]) rfl rfl (Nat.le_of_ble_eq_true rfl) z00 ?_
  obtain ⟨g2, hf⟩ := gif hf
  cases hf
  exact z_zret X hK g2 dX12_isTree_13
set_option maxHeartbeats 4000000 in
set_option maxRecDepth 100000 in
theorem z_M_isNode_j29 {g : GP} {x : CX} {d : Nat} (X : zX g x RX12 cX12_isNode 3 (d + 1)) (hd : 1 ≤ d) (h : Hp) (y : Int) (hf : M_isNode_j29 h = some y) (hK : zE g x (some .boolean) 0 0 157 h (some (0, y))) : ZV g x 3 h 29 [] [] := by
  unfold M_isNode_j29 at hf
  refine z_iconst X dX12_isNode_29 kc_0 ?_
  cases hf
  exact z_zret X hK (Or.inl rfl) dX12_isNode_30
set_option maxHeartbeats 4000000 in
set_option maxRecDepth 100000 in
theorem c_M_isNode {l : Launch} {g : GP} (d : Nat) (hd : 2 ≤ d) (l0 l1 l2 : Int) (h : Hp) (y : Int) (hf : M_isNode l0 l1 l2 h = some y) : zM l yX12_isNode cX12_isNode 3 (some .boolean) d 0 0 g 157 h [(2, l0), (0, l1), (0, l2)] 157 h (some (0, y)) := by
  obtain ⟨d, rfl⟩ : ∃ k, d = k + 1 := ⟨d - 1, by omega⟩
  replace hd : 1 ≤ d := Nat.le_of_succ_le_succ hd
  refine z_start (by decide) (Nat.le_of_ble_eq_true rfl) (fun x X hK _ _ _ hl => ?_)
  show ZV g x 3 h 0 [(0, (2, l0)), (1, (0, l1)), (2, (0, l2))] []
  unfold M_isNode at hf
  refine z_aload_n X dX12_isNode_0 0 rfl ?_
  refine z_iload_n X dX12_isNode_1 1 rfl ?_
  obtain ⟨g1, hf⟩ := gif hf
  obtain ⟨r2, hr2, hf⟩ := obE hf
  refine y_V1 X cv_RX12_18 dX12_isNode_2 g1 (c_M_isTree d (Nat.le_trans (by decide) hd) l0 l1 h r2 hr2) (as := [(0, l1)]) rfl rfl (Nat.le_of_ble_eq_true rfl) z00 ?_
  refine z_if_eq X dX12_isNode_5 rfl (fun hc5 => ?_) (fun hc5 => ?_)
  · have hf := ift hc5 hf
    exact z_weak [] rfl (z_M_isNode_j29 X hd  h _ hf hK)
  · have hf := iff' hc5 hf
    refine z_iload_n X dX12_isNode_8 2 rfl ?_
    refine z_i2l X dX12_isNode_9 ?_
    refine z_lconst0 X dX12_isNode_10 ?_
    refine z_aload_n X dX12_isNode_11 0 rfl ?_
    refine z_iload_n X dX12_isNode_12 1 rfl ?_
    obtain ⟨r13, hr13, hf⟩ := obE hf
    refine y_V1 X cv_RX12_22 dX12_isNode_13 g1 (c_M_nodesOf d (Nat.zero_le _) l0 l1 h r13 hr13) (as := [(0, l1)]) rfl rfl (Nat.le_of_ble_eq_true rfl) z00 ?_
    refine z_iconst X dX12_isNode_16 kc_1 ?_
    refine z_isub X dX12_isNode_17 ?_
    refine z_i2l X dX12_isNode_18 ?_
    obtain ⟨r19, hr19, hf⟩ := obE hf
    refine y_S1 X cs_RX12_14 dX12_isNode_19 (c_M_in d (Nat.zero_le _) l2 0 (w32 (r13 - 1)) h r19 hr19) (as := [(1, l2), (1, 0), (1, w32 (r13 - 1))]) rfl rfl (Nat.le_of_ble_eq_true rfl) z00 ?_
    refine z_if_eq X dX12_isNode_22 rfl (fun hc22 => ?_) (fun hc22 => ?_)
    · have hf := ift hc22 hf
      exact z_weak [] rfl (z_M_isNode_j29 X hd  h _ hf hK)
    · have hf := iff' hc22 hf
      refine z_iconst X dX12_isNode_25 kc_1 ?_
      refine z_goto X dX12_isNode_26 rfl ?_
      cases hf
      exact z_zret X hK (Or.inr rfl) dX12_isNode_30
set_option maxHeartbeats 4000000 in
set_option maxRecDepth 100000 in
theorem c_M_isOut {l : Launch} {g : GP} (d : Nat) (hd : 0 ≤ d) (l0 l1 : Int) (h : Hp) (y : Int) (hf : M_isOut l0 l1 h = some y) : zM l yX12_isOut cX12_isOut 2 (some .boolean) d 0 0 g 157 h [(2, l0), (0, l1)] 157 h (some (0, y)) := by
  refine z_start (by decide) (Nat.le_of_ble_eq_true rfl) (fun x X hK _ _ _ hl => ?_)
  show ZV g x 2 h 0 [(0, (2, l0)), (1, (0, l1))] []
  unfold M_isOut at hf
  refine z_aload_n X dX12_isOut_0 0 rfl ?_
  obtain ⟨g1, hf⟩ := gif hf
  refine y_get X fl_RX12_26 dX12_isOut_1 g1 ?_
  refine z_iload_n X dX12_isOut_4 1 rfl ?_
  refine z_ishr X dX12_isOut_5 ?_
  refine z_iconst X dX12_isOut_6 kc_1 ?_
  refine z_iand X dX12_isOut_7 ?_
  refine z_iconst X dX12_isOut_8 kc_1 ?_
  refine z_icmp_ne X dX12_isOut_9 rfl (fun hc9 => ?_) (fun hc9 => ?_)
  · rw [if_neg hc9] at hf
    refine z_iconst X dX12_isOut_16 kc_0 ?_
    cases hf
    exact z_zret X hK (Or.inl rfl) dX12_isOut_17
  · rw [if_pos hc9] at hf
    refine z_iconst X dX12_isOut_12 kc_1 ?_
    refine z_goto X dX12_isOut_13 rfl ?_
    cases hf
    exact z_zret X hK (Or.inr rfl) dX12_isOut_17
set_option maxHeartbeats 4000000 in
set_option maxRecDepth 100000 in
theorem c_M_isGuest {l : Launch} {g : GP} (d : Nat) (hd : 0 ≤ d) (l0 l1 : Int) (h : Hp) (y : Int) (hf : M_isGuest l0 l1 h = some y) : zM l yX12_isGuest cX12_isGuest 2 (some .boolean) d 0 0 g 157 h [(2, l0), (0, l1)] 157 h (some (0, y)) := by
  refine z_start (by decide) (Nat.le_of_ble_eq_true rfl) (fun x X hK _ _ _ hl => ?_)
  show ZV g x 2 h 0 [(0, (2, l0)), (1, (0, l1))] []
  unfold M_isGuest at hf
  refine z_aload_n X dX12_isGuest_0 0 rfl ?_
  obtain ⟨g1, hf⟩ := gif hf
  refine y_get X fl_RX12_29 dX12_isGuest_1 g1 ?_
  refine z_iload_n X dX12_isGuest_4 1 rfl ?_
  obtain ⟨g2, hf⟩ := gif hf
  refine y_iald X dX12_isGuest_5 g2 ?_
  refine z_iconst X dX12_isGuest_6 kc_m1 ?_
  refine z_icmp_eq X dX12_isGuest_7 rfl (fun hc7 => ?_) (fun hc7 => ?_)
  · rw [if_pos hc7] at hf
    refine z_iconst X dX12_isGuest_14 kc_0 ?_
    cases hf
    exact z_zret X hK (Or.inl rfl) dX12_isGuest_15
  · rw [if_neg hc7] at hf
    refine z_iconst X dX12_isGuest_10 kc_1 ?_
    refine z_goto X dX12_isGuest_11 rfl ?_
    cases hf
    exact z_zret X hK (Or.inr rfl) dX12_isGuest_15
set_option maxHeartbeats 4000000 in
set_option maxRecDepth 100000 in
theorem z_M_feed_L55 {g : GP} {x : CX} {d : Nat} (X : zX g x RX12 cX12_feed 7 d) (l0 : Int)  (E : Hp → Prop) (hx0 : ∀ e : Hp, E (e) → ZV g x 7 e 101 [(0, (2, l0))] []) (l6 : Int) (h : Hp) (y : (Int × Hp) ⊕ (Hp)) (hf : M_feed_L55 l0 l6 h = some y) (hk : z_sum (fun q : Int × Hp => ZV g x 7 q.2 55 [(0, (2, l0)), (6, (0, q.1))] []) E y) : ZV g x 7 h 55 [(0, (2, l0)), (6, (0, l6))] [] := by
  unfold M_feed_L55 at hf
  refine z_iload X dX12_feed_55 1 rfl ?_
  refine z_bipush X dX12_feed_57 kb_20 kc_20 ?_
  refine z_icmp_ge X dX12_feed_59 rfl (fun hc59 => ?_) (fun hc59 => ?_)
  · have hf := ift hc59 hf
    cases hf
    exact z_weak [0] rfl (hx0 _ hk)
  · have hf := iff' hc59 hf
    refine z_aload_n X dX12_feed_62 0 rfl ?_
    obtain ⟨g7, hf⟩ := gif hf
    refine y_get X fl_RX12_38 dX12_feed_63 g7 ?_
    refine z_aload_n X dX12_feed_66 0 rfl ?_
    refine y_get X fl_RX12_32 dX12_feed_67 g7 ?_
    refine z_iload X dX12_feed_70 1 rfl ?_
    refine z_iadd X dX12_feed_72 ?_
    refine z_aload_n X dX12_feed_73 0 rfl ?_
    refine y_get X fl_RX12_35 dX12_feed_74 g7 ?_
    refine z_iload X dX12_feed_77 1 rfl ?_
    refine z_iconst X dX12_feed_79 kc_4 ?_
    refine z_idiv X dX12_feed_80 (by decide) ?_
    obtain ⟨g8, hf⟩ := gif hf
    refine y_iald X dX12_feed_81 g8 ?_
    refine z_bipush X dX12_feed_82 kb_24 kc_24 ?_
    refine z_bipush X dX12_feed_84 kb_8 kc_8 ?_
    refine z_iload X dX12_feed_86 1 rfl ?_
    refine z_iconst X dX12_feed_88 kc_4 ?_
    refine z_irem X dX12_feed_89 (by decide) ?_
    refine z_imul X dX12_feed_90 ?_
    refine z_isub X dX12_feed_91 ?_
    refine z_ishr X dX12_feed_92 ?_
    refine z_i2b X dX12_feed_93 ?_
    obtain ⟨g9, hf⟩ := gif hf
    refine y_bast X dX12_feed_94 g9 ?_
    let h_6 : Hp := hput h (h l0 19) (w32 ((h l0 20) + l6)) (w8 (w8 (i_shr (h (h l0 21) (w32 (Int.tdiv l6 4))) (w32 (24 - (w32 (8 * (w32 (Int.tmod l6 4)))))))))
    refine z_iinc X dX12_feed_95 1 rfl (by decide) (ls' := [(6, (0, w32 (l6 + 1))), (0, (2, l0))]) rfl ?_
    refine z_goto X dX12_feed_98 rfl ?_
    cases hf
    exact z_weak [1, 0] rfl hk
set_option maxHeartbeats 4000000 in
set_option maxRecDepth 100000 in
theorem c_M_feed {l : Launch} {g : GP} (d : Nat) (hd : 0 ≤ d) (l0 l1 l2 l3 l4 l5 : Int) (h : Hp) (y : Int × Hp) (hf : M_feed l0 l1 l2 l3 l4 l5 h = some y) : zM l yX12_feed cX12_feed 7 (some .int) d 0 0 g 157 h [(2, l0), (0, l1), (0, l2), (0, l3), (0, l4), (0, l5)] 157 y.2 (some (0, y.1)) := by
  refine z_start (by decide) (Nat.le_of_ble_eq_true rfl) (fun x X hK _ _ _ hl => ?_)
  show ZV g x 7 h 0 [(0, (2, l0)), (1, (0, l1)), (2, (0, l2)), (3, (0, l3)), (4, (0, l4)), (5, (0, l5))] []
  unfold M_feed at hf
  refine z_aload_n X dX12_feed_0 0 rfl ?_
  obtain ⟨g1, hf⟩ := gif hf
  refine y_get X fl_RX12_32 dX12_feed_1 g1 ?_
  refine z_bipush X dX12_feed_4 kb_20 kc_20 ?_
  refine z_iadd X dX12_feed_6 ?_
  refine z_sipush X dX12_feed_7 ks_400 kc_400 ?_
  refine z_icmp_le X dX12_feed_10 rfl (fun hc10 => ?_) (fun hc10 => ?_)
  · have hf := ift hc10 hf
    refine z_aload_n X dX12_feed_15 0 rfl ?_
    refine y_get X fl_RX12_35 dX12_feed_16 g1 ?_
    refine z_iconst X dX12_feed_19 kc_0 ?_
    refine z_iload_n X dX12_feed_20 1 rfl ?_
    obtain ⟨g2, hf⟩ := gif hf
    refine y_iast X dX12_feed_21 g2 ?_
    let h_1 : Hp := hput h (h l0 21) 0 l1
    refine z_aload_n X dX12_feed_22 0 rfl ?_
    refine y_get X fl_RX12_35 dX12_feed_23 g1 ?_
    refine z_iconst X dX12_feed_26 kc_1 ?_
    refine z_iload_n X dX12_feed_27 2 rfl ?_
    obtain ⟨g3, hf⟩ := gif hf
    refine y_iast X dX12_feed_28 g3 ?_
    let h_2 : Hp := hput h_1 (h_1 l0 21) 1 l2
    refine z_aload_n X dX12_feed_29 0 rfl ?_
    refine y_get X fl_RX12_35 dX12_feed_30 g1 ?_
    refine z_iconst X dX12_feed_33 kc_2 ?_
    refine z_iload_n X dX12_feed_34 3 rfl ?_
    obtain ⟨g4, hf⟩ := gif hf
    refine y_iast X dX12_feed_35 g4 ?_
    let h_3 : Hp := hput h_2 (h_2 l0 21) 2 l3
    refine z_aload_n X dX12_feed_36 0 rfl ?_
    refine y_get X fl_RX12_35 dX12_feed_37 g1 ?_
    refine z_iconst X dX12_feed_40 kc_3 ?_
    refine z_iload X dX12_feed_41 4 rfl ?_
    obtain ⟨g5, hf⟩ := gif hf
    refine y_iast X dX12_feed_43 g5 ?_
    let h_4 : Hp := hput h_3 (h_3 l0 21) 3 l4
    refine z_aload_n X dX12_feed_44 0 rfl ?_
    refine y_get X fl_RX12_35 dX12_feed_45 g1 ?_
    refine z_iconst X dX12_feed_48 kc_4 ?_
    refine z_iload X dX12_feed_49 5 rfl ?_
    obtain ⟨g6, hf⟩ := gif hf
    refine y_iast X dX12_feed_51 g6 ?_
    let h_5 : Hp := hput h_4 (h_4 l0 21) 4 l5
    refine z_iconst X dX12_feed_52 kc_0 ?_
    refine z_istore X dX12_feed_53 (by decide) (ls' := [(6, (0, 0)), (0, (2, l0)), (1, (0, l1)), (2, (0, l2)), (3, (0, l3)), (4, (0, l4)), (5, (0, l5))]) rfl ?_
    obtain ⟨q55, hq55, hf⟩ := obE hf
    have hx55_0 : ∀ e101 : Hp, (e101 : Hp) = q55 → ZV g x 7 e101 101 [(0, (2, l0))] [] := by
      intro e101 hq
      subst hq
      refine z_aload_n X dX12_feed_101 0 rfl ?_
      refine z_dup X ne2 dX12_feed_102 ?_
      refine y_get X fl_RX12_32 dX12_feed_103 g1 ?_
      refine z_bipush X dX12_feed_106 kb_20 kc_20 ?_
      refine z_iadd X dX12_feed_108 ?_
      refine y_put X fl_RX12_32 dX12_feed_109 g1 rfl (by decide) ?_
      let h_7 : Hp := hput e101 l0 20 (w32 ((e101 l0 20) + 20))
      refine z_aload_n X dX12_feed_112 0 rfl ?_
      refine y_get X fl_RX12_32 dX12_feed_113 g1 ?_
      cases hf
      exact z_iret X hK dX12_feed_116
    exact z_weak [1, 0] rfl (z_loop (Z := (fun q : Int × Hp => ZV g x 7 q.2 55 [(0, (2, l0)), (6, (0, q.1))] [])) (E := fun q => q = q55) (fun q y hb hk => z_M_feed_L55 X l0 (fun q => q = q55) hx55_0 q.1 q.2 y hb hk) LN (0, h_5) q55 hq55 rfl)
  · have hf := iff' hc10 hf
    refine z_iconst X dX12_feed_13 kc_m1 ?_
    cases hf
    exact z_iret X hK dX12_feed_14
set_option maxHeartbeats 4000000 in
set_option maxRecDepth 100000 in
theorem c_M_end {l : Launch} {g : GP} (d : Nat) (hd : 1 ≤ d) (l0 l1 : Int) (h : Hp) (y : Int × Hp) (hf : M_end l0 l1 h = some y) : zM l yX12_end cX12_end 2 (some .int) d 0 0 g 157 h [(2, l0), (0, l1)] 157 y.2 (some (0, y.1)) := by
  obtain ⟨d, rfl⟩ : ∃ k, d = k + 1 := ⟨d - 1, by omega⟩
  replace hd : 0 ≤ d := Nat.le_of_succ_le_succ hd
  refine z_start (by decide) (Nat.le_of_ble_eq_true rfl) (fun x X hK _ _ _ hl => ?_)
  show ZV g x 2 h 0 [(0, (2, l0)), (1, (0, l1))] []
  unfold M_end at hf
  refine z_iload_n X dX12_end_0 1 rfl ?_
  refine z_i2l X dX12_end_1 ?_
  refine z_lconst0 X dX12_end_2 ?_
  refine z_aload_n X dX12_end_3 0 rfl ?_
  obtain ⟨g1, hf⟩ := gif hf
  refine y_get X fl_RX12_32 dX12_end_4 g1 ?_
  refine z_i2l X dX12_end_7 ?_
  obtain ⟨r8, hr8, hf⟩ := obE hf
  refine y_S1 X cs_RX12_14 dX12_end_8 (c_M_in d (Nat.zero_le _) l1 0 (h l0 20) h r8 hr8) (as := [(1, l1), (1, 0), (1, h l0 20)]) rfl rfl (Nat.le_of_ble_eq_true rfl) z00 ?_
  refine z_if_ne X dX12_end_11 rfl (fun hc11 => ?_) (fun hc11 => ?_)
  · have hf := iff' hc11 hf
    refine z_aload_n X dX12_end_16 0 rfl ?_
    refine z_iload_n X dX12_end_17 1 rfl ?_
    refine y_put X fl_RX12_32 dX12_end_18 g1 rfl (by decide) ?_
    let h_1 : Hp := hput h l0 20 l1
    refine z_iload_n X dX12_end_21 1 rfl ?_
    cases hf
    exact z_iret X hK dX12_end_22
  · have hf := ift hc11 hf
    refine z_iconst X dX12_end_14 kc_m1 ?_
    cases hf
    exact z_iret X hK dX12_end_15
set_option maxHeartbeats 4000000 in
set_option maxRecDepth 100000 in
theorem c_M_see {l : Launch} {g : GP} (d : Nat) (hd : 0 ≤ d) (l0 l1 : Int) (h : Hp) (y : Int) (hf : M_see l0 l1 h = some y) : zM l yX12_see cX12_see 2 (some .int) d 0 0 g 157 h [(2, l0), (0, l1)] 157 h (some (0, y)) := by
  refine z_start (by decide) (Nat.le_of_ble_eq_true rfl) (fun x X hK _ _ _ hl => ?_)
  show ZV g x 2 h 0 [(0, (2, l0)), (1, (0, l1))] []
  unfold M_see at hf
  refine z_iload_n X dX12_see_0 1 rfl ?_
  refine z_aload_n X dX12_see_1 0 rfl ?_
  obtain ⟨g1, hf⟩ := gif hf
  refine y_get X fl_RX12_42 dX12_see_2 g1 ?_
  refine z_icmp_ge X dX12_see_5 rfl (fun hc5 => ?_) (fun hc5 => ?_)
  · have hf := ift hc5 hf
    refine z_iconst X dX12_see_21 kc_m1 ?_
    cases hf
    exact z_iret X hK dX12_see_22
  · have hf := iff' hc5 hf
    refine z_aload_n X dX12_see_8 0 rfl ?_
    refine y_get X fl_RX12_38 dX12_see_9 g1 ?_
    refine z_iload_n X dX12_see_12 1 rfl ?_
    obtain ⟨g2, hf⟩ := gif hf
    refine y_bald X dX12_see_13 g2 ?_
    refine z_sipush X dX12_see_14 ks_255 kc_255 ?_
    refine z_iand X dX12_see_17 ?_
    refine z_goto X dX12_see_18 rfl ?_
    cases hf
    exact z_iret X hK dX12_see_22
set_option maxHeartbeats 4000000 in
set_option maxRecDepth 100000 in
theorem z_M_skips_j26 {g : GP} {x : CX} {d : Nat} (X : zX g x RX12 cX12_skips 1 (d + 1)) (hd : 0 ≤ d) (l0 : Int) (h : Hp) (y : (Hp) ⊕ (Hp)) (hf : M_skips_j26 l0 h = some y) (E : Hp → Prop) (hx0 : ∀ e : Hp, E (e) → ZV g x 1 e 39 [(0, (2, l0))] []) (hk : z_sum (fun q : Hp => ZV g x 1 q 0 [(0, (2, l0))] []) E y) : ZV g x 1 h 26 [(0, (2, l0))] [] := by
  unfold M_skips_j26 at hf
  refine z_aload_n X dX12_skips_26 0 rfl ?_
  refine z_dup X ne2 dX12_skips_27 ?_
  obtain ⟨g2, hf⟩ := gif hf
  refine y_get X fl_RX12_45 dX12_skips_28 g2 ?_
  refine z_iconst X dX12_skips_31 kc_1 ?_
  refine z_iadd X dX12_skips_32 ?_
  refine y_put X fl_RX12_45 dX12_skips_33 g2 rfl (by decide) ?_
  let h_1 : Hp := hput h l0 23 (w32 ((h l0 23) + 1))
  refine z_goto X dX12_skips_36 rfl ?_
  cases hf
  exact hk
set_option maxHeartbeats 4000000 in
set_option maxRecDepth 100000 in
theorem z_M_skips_L0 {g : GP} {x : CX} {d : Nat} (X : zX g x RX12 cX12_skips 1 (d + 1)) (hd : 0 ≤ d) (l0 : Int)  (E : Hp → Prop) (hx0 : ∀ e : Hp, E (e) → ZV g x 1 e 39 [(0, (2, l0))] []) (h : Hp) (y : (Hp) ⊕ (Hp)) (hf : M_skips_L0 l0 h = some y) (hk : z_sum (fun q : Hp => ZV g x 1 q 0 [(0, (2, l0))] []) E y) : ZV g x 1 h 0 [(0, (2, l0))] [] := by
  unfold M_skips_L0 at hf
  refine z_aload_n X dX12_skips_0 0 rfl ?_
  refine z_aload_n X dX12_skips_1 0 rfl ?_
  obtain ⟨g1, hf⟩ := gif hf
  refine y_get X fl_RX12_45 dX12_skips_2 g1 ?_
  obtain ⟨r5, hr5, hf⟩ := obE hf
  refine y_V1 X cv_RX12_48 dX12_skips_5 g1 (c_M_see d (Nat.zero_le _) l0 (h l0 23) h r5 hr5) (as := [(0, h l0 23)]) rfl rfl (Nat.le_of_ble_eq_true rfl) z00 ?_
  refine z_bipush X dX12_skips_8 kb_32 kc_32 ?_
  refine z_icmp_eq X dX12_skips_10 rfl (fun hc10 => ?_) (fun hc10 => ?_)
  · have hf := ift hc10 hf
    exact (z_M_skips_j26 X hd l0 h _ hf E hx0 hk)
  · have hf := iff' hc10 hf
    refine z_aload_n X dX12_skips_13 0 rfl ?_
    refine z_aload_n X dX12_skips_14 0 rfl ?_
    refine y_get X fl_RX12_45 dX12_skips_15 g1 ?_
    obtain ⟨r18, hr18, hf⟩ := obE hf
    refine y_V1 X cv_RX12_48 dX12_skips_18 g1 (c_M_see d (Nat.zero_le _) l0 (h l0 23) h r18 hr18) (as := [(0, h l0 23)]) rfl rfl (Nat.le_of_ble_eq_true rfl) z00 ?_
    refine z_bipush X dX12_skips_21 kb_10 kc_10 ?_
    refine z_icmp_ne X dX12_skips_23 rfl (fun hc23 => ?_) (fun hc23 => ?_)
    · have hf := iff' hc23 hf
      cases hf
      exact (hx0 _ hk)
    · have hf := ift hc23 hf
      exact (z_M_skips_j26 X hd l0 h _ hf E hx0 hk)
set_option maxHeartbeats 4000000 in
set_option maxRecDepth 100000 in
theorem c_M_skips {l : Launch} {g : GP} (d : Nat) (hd : 1 ≤ d) (l0 : Int) (h : Hp) (y : Hp) (hf : M_skips l0 h = some y) : zM l yX12_skips cX12_skips 1 none d 0 0 g 157 h [(2, l0)] 157 y none := by
  obtain ⟨d, rfl⟩ : ∃ k, d = k + 1 := ⟨d - 1, by omega⟩
  replace hd : 0 ≤ d := Nat.le_of_succ_le_succ hd
  refine z_start (by decide) (Nat.le_of_ble_eq_true rfl) (fun x X hK _ _ _ hl => ?_)
  show ZV g x 1 h 0 [(0, (2, l0))] []
  unfold M_skips at hf
  obtain ⟨q0, hq0, hf⟩ := obE hf
  have hx0_0 : ∀ e39 : Hp, (e39 : Hp) = q0 → ZV g x 1 e39 39 [(0, (2, l0))] [] := by
    intro e39 hq
    subst hq
    refine z_aload_n X dX12_skips_39 0 rfl ?_
    refine z_aload_n X dX12_skips_40 0 rfl ?_
    obtain ⟨g3, hf⟩ := gif hf
    refine y_get X fl_RX12_45 dX12_skips_41 g3 ?_
    refine y_put X fl_RX12_51 dX12_skips_44 g3 rfl (by decide) ?_
    let h_2 : Hp := hput e39 l0 24 (e39 l0 23)
    cases hf
    exact z_vret X hK dX12_skips_47
  exact (z_loop (Z := (fun q : Hp => ZV g x 1 q 0 [(0, (2, l0))] [])) (E := fun q => q = q0) (fun q y hb hk => z_M_skips_L0 X hd l0 (fun q => q = q0) hx0_0 q y hb hk) LN h q0 hq0 rfl)
set_option maxHeartbeats 4000000 in
set_option maxRecDepth 100000 in
theorem z_M_advance_j153 {g : GP} {x : CX} {d : Nat} (X : zX g x RX12 cX12_advance 2 (d + 1)) (hd : 1 ≤ d) (s0 s1 : Int) (h : Hp) (y : Hp) (hf : M_advance_j153 s0 s1 h = some y) (hK : zE g x none 0 0 157 y none) : ZV g x 2 h 153 [] [(0, s0), (2, s1)] := by
  unfold M_advance_j153 at hf
  obtain ⟨g2, hf⟩ := gif hf
  refine y_put X fl_RX12_61 dX12_advance_153 g2 rfl (by decide) ?_
  let h_3 : Hp := hput h s1 25 s0
  cases hf
  exact z_vret X hK dX12_advance_156
set_option maxHeartbeats 4000000 in
set_option maxRecDepth 100000 in
theorem z_M_advance_j148 {g : GP} {x : CX} {d : Nat} (X : zX g x RX12 cX12_advance 2 (d + 1)) (hd : 1 ≤ d) (s0 : Int) (h : Hp) (y : Hp) (hf : M_advance_j148 s0 h = some y) (hK : zE g x none 0 0 157 y none) : ZV g x 2 h 148 [] [(2, s0)] := by
  unfold M_advance_j148 at hf
  refine z_iconst X dX12_advance_148 kc_4 ?_
  refine z_goto X dX12_advance_149 rfl ?_
  exact (z_M_advance_j153 X hd 4 s0 h _ hf hK)
set_option maxHeartbeats 4000000 in
set_option maxRecDepth 100000 in
theorem c_M_advance {l : Launch} {g : GP} (d : Nat) (hd : 2 ≤ d) (l0 : Int) (h : Hp) (y : Hp) (hf : M_advance l0 h = some y) : zM l yX12_advance cX12_advance 2 none d 0 0 g 157 h [(2, l0)] 157 y none := by
  obtain ⟨d, rfl⟩ : ∃ k, d = k + 1 := ⟨d - 1, by omega⟩
  replace hd : 1 ≤ d := Nat.le_of_succ_le_succ hd
  refine z_start (by decide) (Nat.le_of_ble_eq_true rfl) (fun x X hK _ _ _ hl => ?_)
  show ZV g x 2 h 0 [(0, (2, l0))] []
  unfold M_advance at hf
  refine z_aload_n X dX12_advance_0 0 rfl ?_
  obtain ⟨g1, hf⟩ := gif hf
  obtain ⟨r1, hr1, hf⟩ := obE hf
  refine y_V0 X cv_RX12_54 dX12_advance_1 g1 (c_M_skips d (Nat.le_trans (by decide) hd) l0 h r1 hr1) (as := []) rfl rfl (Nat.le_of_ble_eq_true rfl) z00 ?_
  refine z_aload_n X dX12_advance_4 0 rfl ?_
  refine z_aload_n X dX12_advance_5 0 rfl ?_
  refine y_get X fl_RX12_45 dX12_advance_6 g1 ?_
  obtain ⟨r9, hr9, hf⟩ := obE hf
  refine y_V1 X cv_RX12_48 dX12_advance_9 g1 (c_M_see d (Nat.zero_le _) l0 (r1 l0 23) r1 r9 hr9) (as := [(0, r1 l0 23)]) rfl rfl (Nat.le_of_ble_eq_true rfl) z00 ?_
  refine z_istore_n X dX12_advance_12 (by decide) (ls' := [(1, (0, r9)), (0, (2, l0))]) rfl ?_
  refine z_aload_n X dX12_advance_13 1 rfl ?_
  refine z_iload_n X dX12_advance_14 0 rfl ?_
  refine y_put X fl_RX12_58 dX12_advance_15 g1 rfl (by decide) ?_
  let h_1 : Hp := hput r1 l0 26 r9
  refine z_iload_n X dX12_advance_18 0 rfl ?_
  refine z_iconst X dX12_advance_19 kc_m1 ?_
  refine z_icmp_ne X dX12_advance_20 rfl (fun hc20 => ?_) (fun hc20 => ?_)
  · have hf := iff' hc20 hf
    refine z_aload_n X dX12_advance_29 1 rfl ?_
    refine z_dup X ne2 dX12_advance_30 ?_
    refine y_get X fl_RX12_45 dX12_advance_31 g1 ?_
    refine z_iconst X dX12_advance_34 kc_1 ?_
    refine z_iadd X dX12_advance_35 ?_
    refine y_put X fl_RX12_45 dX12_advance_36 g1 rfl (by decide) ?_
    let h_2 : Hp := hput h_1 l0 23 (w32 ((h_1 l0 23) + 1))
    refine z_iload_n X dX12_advance_39 0 rfl ?_
    refine z_i2l X dX12_advance_40 ?_
    refine z_ldc2 X kj_RX12_64 kl_65 dX12_advance_41 ?_
    refine z_ldc2 X kj_RX12_66 kl_90 dX12_advance_44 ?_
    obtain ⟨r47, hr47, hf⟩ := obE hf
    refine y_S1 X cs_RX12_14 dX12_advance_47 (c_M_in d (Nat.zero_le _) r9 65 90 h_2 r47 hr47) (as := [(1, r9), (1, 65), (1, 90)]) rfl rfl (Nat.le_of_ble_eq_true rfl) z00 ?_
    refine z_if_eq X dX12_advance_50 rfl (fun hc50 => ?_) (fun hc50 => ?_)
    · have hf := ift hc50 hf
      refine z_iload_n X dX12_advance_69 0 rfl ?_
      refine z_i2l X dX12_advance_70 ?_
      refine z_ldc2 X kj_RX12_68 kl_97 dX12_advance_71 ?_
      refine z_ldc2 X kj_RX12_70 kl_122 dX12_advance_74 ?_
      obtain ⟨r77, hr77, hf⟩ := obE hf
      refine y_S1 X cs_RX12_14 dX12_advance_77 (c_M_in d (Nat.zero_le _) r9 97 122 h_2 r77 hr77) (as := [(1, r9), (1, 97), (1, 122)]) rfl rfl (Nat.le_of_ble_eq_true rfl) z00 ?_
      refine z_if_eq X dX12_advance_80 rfl (fun hc80 => ?_) (fun hc80 => ?_)
      · have hf := ift hc80 hf
        refine z_aload_n X dX12_advance_99 1 rfl ?_
        refine z_iload_n X dX12_advance_100 0 rfl ?_
        refine z_bipush X dX12_advance_101 kb_40 kc_40 ?_
        refine z_icmp_eq X dX12_advance_103 rfl (fun hc103 => ?_) (fun hc103 => ?_)
        · have hf := ift hc103 hf
          exact z_weak [] rfl (z_M_advance_j148 X hd l0 h_2 _ hf hK)
        · have hf := iff' hc103 hf
          refine z_iload_n X dX12_advance_106 0 rfl ?_
          refine z_bipush X dX12_advance_107 kb_41 kc_41 ?_
          refine z_icmp_eq X dX12_advance_109 rfl (fun hc109 => ?_) (fun hc109 => ?_)
          · have hf := ift hc109 hf
            exact z_weak [] rfl (z_M_advance_j148 X hd l0 h_2 _ hf hK)
          · have hf := iff' hc109 hf
            refine z_iload_n X dX12_advance_112 0 rfl ?_
            refine z_bipush X dX12_advance_113 kb_59 kc_59 ?_
            refine z_icmp_eq X dX12_advance_115 rfl (fun hc115 => ?_) (fun hc115 => ?_)
            · have hf := ift hc115 hf
              exact z_weak [] rfl (z_M_advance_j148 X hd l0 h_2 _ hf hK)
            · have hf := iff' hc115 hf
              refine z_iload_n X dX12_advance_118 0 rfl ?_
              refine z_bipush X dX12_advance_119 kb_46 kc_46 ?_
              refine z_icmp_eq X dX12_advance_121 rfl (fun hc121 => ?_) (fun hc121 => ?_)
              · have hf := ift hc121 hf
                exact z_weak [] rfl (z_M_advance_j148 X hd l0 h_2 _ hf hK)
              · have hf := iff' hc121 hf
                refine z_iload_n X dX12_advance_124 0 rfl ?_
                refine z_bipush X dX12_advance_125 kb_42 kc_42 ?_
                refine z_icmp_eq X dX12_advance_127 rfl (fun hc127 => ?_) (fun hc127 => ?_)
                · have hf := ift hc127 hf
                  exact z_weak [] rfl (z_M_advance_j148 X hd l0 h_2 _ hf hK)
                · have hf := iff' hc127 hf
                  refine z_iload_n X dX12_advance_130 0 rfl ?_
                  refine z_bipush X dX12_advance_131 kb_94 kc_94 ?_
                  refine z_icmp_eq X dX12_advance_133 rfl (fun hc133 => ?_) (fun hc133 => ?_)
                  · have hf := ift hc133 hf
                    exact z_weak [] rfl (z_M_advance_j148 X hd l0 h_2 _ hf hK)
                  · have hf := iff' hc133 hf
                    refine z_iload_n X dX12_advance_136 0 rfl ?_
                    refine z_bipush X dX12_advance_137 kb_33 kc_33 ?_
                    refine z_icmp_eq X dX12_advance_139 rfl (fun hc139 => ?_) (fun hc139 => ?_)
                    · have hf := ift hc139 hf
                      exact z_weak [] rfl (z_M_advance_j148 X hd l0 h_2 _ hf hK)
                    · have hf := iff' hc139 hf
                      refine z_iload_n X dX12_advance_142 0 rfl ?_
                      refine z_bipush X dX12_advance_143 kb_43 kc_43 ?_
                      refine z_icmp_ne X dX12_advance_145 rfl (fun hc145 => ?_) (fun hc145 => ?_)
                      · have hf := iff' hc145 hf
                        refine z_iconst X dX12_advance_152 kc_5 ?_
                        exact z_weak [] rfl (z_M_advance_j153 X hd 5 l0 h_2 _ hf hK)
                      · have hf := ift hc145 hf
                        exact z_weak [] rfl (z_M_advance_j148 X hd l0 h_2 _ hf hK)
      · have hf := iff' hc80 hf
        refine z_aload_n X dX12_advance_83 1 rfl ?_
        refine z_iconst X dX12_advance_84 kc_3 ?_
        refine y_put X fl_RX12_61 dX12_advance_85 g1 rfl (by decide) ?_
        let h_4 : Hp := hput h_2 l0 25 3
        refine z_aload_n X dX12_advance_88 1 rfl ?_
        refine z_iload_n X dX12_advance_89 0 rfl ?_
        refine z_bipush X dX12_advance_90 kb_97 kc_97 ?_
        refine z_isub X dX12_advance_92 ?_
        refine y_put X fl_RX12_58 dX12_advance_93 g1 rfl (by decide) ?_
        let h_5 : Hp := hput h_4 l0 26 (w32 (r9 - 97))
        refine z_goto X dX12_advance_96 rfl ?_
        cases hf
        exact z_vret X hK dX12_advance_156
    · have hf := iff' hc50 hf
      refine z_aload_n X dX12_advance_53 1 rfl ?_
      refine z_iconst X dX12_advance_54 kc_2 ?_
      refine y_put X fl_RX12_61 dX12_advance_55 g1 rfl (by decide) ?_
      let h_6 : Hp := hput h_2 l0 25 2
      refine z_aload_n X dX12_advance_58 1 rfl ?_
      refine z_iload_n X dX12_advance_59 0 rfl ?_
      refine z_bipush X dX12_advance_60 kb_65 kc_65 ?_
      refine z_isub X dX12_advance_62 ?_
      refine y_put X fl_RX12_58 dX12_advance_63 g1 rfl (by decide) ?_
      let h_7 : Hp := hput h_6 l0 26 (w32 (r9 - 65))
      refine z_goto X dX12_advance_66 rfl ?_
      cases hf
      exact z_vret X hK dX12_advance_156
  · have hf := ift hc20 hf
    refine z_aload_n X dX12_advance_23 1 rfl ?_
    refine z_iconst X dX12_advance_24 kc_0 ?_
    refine y_put X fl_RX12_61 dX12_advance_25 g1 rfl (by decide) ?_
    let h_8 : Hp := hput h_1 l0 25 0
    cases hf
    exact z_vret X hK dX12_advance_28
