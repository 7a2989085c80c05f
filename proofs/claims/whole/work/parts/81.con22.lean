set_option maxHeartbeats 4000000 in
set_option maxRecDepth 100000 in
theorem c_M_laysAbove {l : Launch} {g : GP} (d : Nat) (l0 l1 l2 l3 l4 l5 l6 l7 : Int) (h : Hp) (y : Hp) (hf : M_laysAbove d l0 l1 l2 l3 l4 l5 l6 l7 h = some y) : zM l yX12_laysAbove cX12_laysAbove 19 none d 0 0 g 157 h [(2, l0), (0, l1), (0, l2), (0, l3), (0, l4), (0, l5), (0, l6), (1, l7)] 157 y none := (M_lays_G_ok l g d).2.1 l0 l1 l2 l3 l4 l5 l6 l7 h y hf
set_option maxHeartbeats 4000000 in
set_option maxRecDepth 100000 in
theorem c_M_laysHost {l : Launch} {g : GP} (d : Nat) (l0 l1 l2 l3 l4 l5 : Int) (h : Hp) (y : Hp) (hf : M_laysHost d l0 l1 l2 l3 l4 l5 h = some y) : zM l yX12_laysHost cX12_laysHost 13 none d 0 0 g 157 h [(2, l0), (0, l1), (0, l2), (0, l3), (0, l4), (1, l5)] 157 y none := (M_lays_G_ok l g d).2.2.1 l0 l1 l2 l3 l4 l5 h y hf
set_option maxHeartbeats 4000000 in
set_option maxRecDepth 100000 in
theorem c_M_laysBelow {l : Launch} {g : GP} (d : Nat) (l0 l1 l2 l3 l4 l5 l6 l7 : Int) (h : Hp) (y : Hp) (hf : M_laysBelow d l0 l1 l2 l3 l4 l5 l6 l7 h = some y) : zM l yX12_laysBelow cX12_laysBelow 18 none d 0 0 g 157 h [(2, l0), (0, l1), (0, l2), (0, l3), (0, l4), (0, l5), (0, l6), (1, l7)] 157 y none := (M_lays_G_ok l g d).2.2.2 l0 l1 l2 l3 l4 l5 l6 l7 h y hf
set_option maxHeartbeats 4000000 in
set_option maxRecDepth 100000 in
theorem z_M_laysWay_j98 {g : GP} {x : CX} {d : Nat} (X : zX g x RX12 cX12_laysWay 10 (d + 1)) (hd : 2 ≤ d) (l0 l5 l7 s0 : Int) (h : Hp) (y : (Int × Int × Hp) ⊕ ((Int × Int × Hp) ⊕ (Hp))) (hf : M_laysWay_j98 (d + 1) l0 l5 l7 s0 h = some y) (E : (Int × Int × Hp) ⊕ (Hp) → Prop) (hx0 : ∀ e : Int × Int × Hp, E (.inl e) → ZV g x 10 e.2.2 108 [(0, (2, l0)), (5, (1, e.1)), (7, (0, e.2.1))] []) (hx1 : ∀ e : Hp, E (.inr e) → ZV g x 10 e 151 [] []) (hk : z_sum (fun q : Int × Int × Hp => ZV g x 10 q.2.2 53 [(0, (2, l0)), (5, (1, q.1)), (7, (0, q.2.1))] []) E y) : ZV g x 10 h 98 [(0, (2, l0)), (5, (1, l5)), (7, (0, l7))] [(1, s0)] := by
  unfold M_laysWay_j98 at hf
  refine z_lstore X dX12_laysWay_98 (by decide) (ls' := [(8, (1, s0)), (0, (2, l0)), (5, (1, l5)), (7, (0, l7))]) rfl ?_
  refine z_lload X dX12_laysWay_100 2 rfl ?_
  refine z_lload X dX12_laysWay_102 0 rfl ?_
  refine z_l_ge X dX12_laysWay_104 dX12_laysWay_105 rfl (fun hc104 => ?_) (fun hc104 => ?_)
  · have hf := ift hc104 hf
    refine z_lload X dX12_laysWay_138 2 rfl ?_
    refine z_lload X dX12_laysWay_140 0 rfl ?_
    refine z_lsub X dX12_laysWay_142 ?_
    refine z_lstore X dX12_laysWay_143 (by decide) (ls' := [(5, (1, w64 (l5 - s0))), (8, (1, s0)), (0, (2, l0)), (7, (0, l7))]) rfl ?_
    refine z_iinc X dX12_laysWay_145 3 rfl (by decide) (ls' := [(7, (0, w32 (l7 + 1))), (5, (1, w64 (l5 - s0))), (8, (1, s0)), (0, (2, l0))]) rfl ?_
    refine z_goto X dX12_laysWay_148 rfl ?_
    cases hf
    exact z_weak [3, 1, 0] rfl hk
  · have hf := iff' hc104 hf
    cases hf
    exact z_weak [1, 2, 3] rfl (hx0 _ hk)
set_option maxHeartbeats 4000000 in
set_option maxRecDepth 100000 in
theorem z_M_laysWay_L53 {g : GP} {x : CX} {d : Nat} (X : zX g x RX12 cX12_laysWay 10 (d + 1)) (hd : 2 ≤ d) (l0 : Int)  (E : (Int × Int × Hp) ⊕ (Hp) → Prop) (hx0 : ∀ e : Int × Int × Hp, E (.inl e) → ZV g x 10 e.2.2 108 [(0, (2, l0)), (5, (1, e.1)), (7, (0, e.2.1))] []) (hx1 : ∀ e : Hp, E (.inr e) → ZV g x 10 e 151 [] []) (l5 l7 : Int) (h : Hp) (y : (Int × Int × Hp) ⊕ ((Int × Int × Hp) ⊕ (Hp))) (hf : M_laysWay_L53 (d + 1) l0 l5 l7 h = some y) (hk : z_sum (fun q : Int × Int × Hp => ZV g x 10 q.2.2 53 [(0, (2, l0)), (5, (1, q.1)), (7, (0, q.2.1))] []) E y) : ZV g x 10 h 53 [(0, (2, l0)), (5, (1, l5)), (7, (0, l7))] [] := by
  unfold M_laysWay_L53 at hf
  refine z_iload X dX12_laysWay_53 2 rfl ?_
  refine z_aload_n X dX12_laysWay_55 0 rfl ?_
  obtain ⟨g2, hf⟩ := gif hf
  refine y_get X fl_RX12_11 dX12_laysWay_56 g2 ?_
  refine z_icmp_ge X dX12_laysWay_59 rfl (fun hc59 => ?_) (fun hc59 => ?_)
  · have hf := ift hc59 hf
    cases hf
    exact z_weak [] rfl (hx1 _ hk)
  · have hf := iff' hc59 hf
    refine z_aload_n X dX12_laysWay_62 0 rfl ?_
    refine z_iload X dX12_laysWay_63 2 rfl ?_
    refine z_aload_n X dX12_laysWay_65 0 rfl ?_
    obtain ⟨r66, hr66, hf⟩ := obE hf
    refine y_V1 X cv_RX12_354 dX12_laysWay_66 g2 (c_M_start d (Nat.zero_le _) l0 h r66 hr66) (as := []) rfl rfl (Nat.le_of_ble_eq_true rfl) z00 ?_
    refine z_iconst X dX12_laysWay_69 kc_0 ?_
    obtain ⟨r70, hr70, hf⟩ := obE hf
    refine y_V1 X cv_RX12_296 dX12_laysWay_70 g2 (c_M_mayGo d (Nat.le_trans (by decide) hd) l0 l7 r66 0 h r70 hr70) (as := [(0, l7), (0, r66), (0, 0)]) rfl rfl (Nat.le_of_ble_eq_true rfl) z00 ?_
    refine z_if_eq X dX12_laysWay_73 rfl (fun hc73 => ?_) (fun hc73 => ?_)
    · have hf := ift hc73 hf
      refine z_lconst0 X dX12_laysWay_97 ?_
      exact (z_M_laysWay_j98 X hd l0 l5 l7 0 h _ hf E hx0 hx1 hk)
    · have hf := iff' hc73 hf
      refine z_aload_n X dX12_laysWay_76 0 rfl ?_
      refine z_iconst X dX12_laysWay_77 kc_1 ?_
      refine z_aload_n X dX12_laysWay_78 0 rfl ?_
      refine z_iload X dX12_laysWay_79 2 rfl ?_
      obtain ⟨r81, hr81, hf⟩ := obE hf
      refine y_V1 X cv_RX12_268 dX12_laysWay_81 g2 (c_M_root d (Nat.zero_le _) l0 l7 h r81 hr81) (as := [(0, l7)]) rfl rfl (Nat.le_of_ble_eq_true rfl) z00 ?_
      refine z_iconst X dX12_laysWay_84 kc_0 ?_
      refine z_aload_n X dX12_laysWay_85 0 rfl ?_
      refine y_get X fl_RX12_249 dX12_laysWay_86 g2 ?_
      refine z_iconst X dX12_laysWay_89 kc_m1 ?_
      refine z_iconst X dX12_laysWay_90 kc_m1 ?_
      obtain ⟨r91, hr91, hf⟩ := obE hf
      refine y_V1 X cv_RX12_292 dX12_laysWay_91 g2 (c_M_waysOf d l0 1 r81 0 (h l0 34) ((-1)) ((-1)) h r91 hr91) (as := [(0, 1), (0, r81), (0, 0), (0, h l0 34), (0, (-1)), (0, (-1))]) rfl rfl (Nat.le_of_ble_eq_true rfl) z00 ?_
      refine z_goto X dX12_laysWay_94 rfl ?_
      exact (z_M_laysWay_j98 X hd l0 l5 l7 r91.1 r91.2 _ hf E hx0 hx1 hk)
set_option maxHeartbeats 4000000 in
set_option maxRecDepth 100000 in
theorem c_M_laysWay {l : Launch} {g : GP} (d : Nat) (hd : 3 ≤ d) (l0 l1 : Int) (h : Hp) (y : Int × Hp) (hf : M_laysWay d l0 l1 h = some y) : zM l yX12_laysWay cX12_laysWay 10 (some .int) d 0 0 g 157 h [(2, l0), (1, l1)] 157 y.2 (some (0, y.1)) := by
  obtain ⟨d, rfl⟩ : ∃ k, d = k + 1 := ⟨d - 1, by omega⟩
  replace hd : 2 ≤ d := Nat.le_of_succ_le_succ hd
  refine z_start (by decide) (Nat.le_of_ble_eq_true rfl) (fun x X hK _ _ _ hl => ?_)
  show ZV g x 10 h 0 [(0, (2, l0)), (1, (1, l1))] []
  unfold M_laysWay at hf
  refine z_lload_n X dX12_laysWay_0 1 rfl ?_
  refine z_lconst0 X dX12_laysWay_1 ?_
  refine z_l_ge X dX12_laysWay_2 dX12_laysWay_3 rfl (fun hc2 => ?_) (fun hc2 => ?_)
  · have hf := ift hc2 hf
    refine z_aload_n X dX12_laysWay_9 0 rfl ?_
    refine z_iconst X dX12_laysWay_10 kc_0 ?_
    obtain ⟨g1, hf⟩ := gif hf
    obtain ⟨r11, hr11, hf⟩ := obE hf
    refine y_V0 X cv_RX12_387 dX12_laysWay_11 g1 (c_M_looksAt d (Nat.le_trans (by decide) hd) l0 0 h r11 hr11) (as := [(0, 0)]) rfl rfl (Nat.le_of_ble_eq_true rfl) z00 ?_
    refine z_aload_n X dX12_laysWay_14 0 rfl ?_
    refine z_aload_n X dX12_laysWay_15 0 rfl ?_
    refine y_get X fl_RX12_249 dX12_laysWay_16 g1 ?_
    obtain ⟨r19, hr19, hf⟩ := obE hf
    refine y_V1 X cv_RX12_397 dX12_laysWay_19 g1 (c_M_waysOfAll d (Nat.le_trans (by decide) hd) l0 (r11 l0 34) r11 r19 hr19) (as := [(0, r11 l0 34)]) rfl rfl (Nat.le_of_ble_eq_true rfl) z00 ?_
    refine z_lstore_n X dX12_laysWay_22 (by decide) (ls' := [(3, (1, r19.1)), (0, (2, l0)), (1, (1, l1))]) rfl ?_
    refine z_lload_n X dX12_laysWay_23 0 rfl ?_
    refine z_ldc2 X kj_RX12_263 kl_1000000000000000 dX12_laysWay_24 ?_
    refine z_l_le X dX12_laysWay_27 dX12_laysWay_28 rfl (fun hc27 => ?_) (fun hc27 => ?_)
    · have hf := ift hc27 hf
      refine z_lload_n X dX12_laysWay_34 2 rfl ?_
      refine z_lload_n X dX12_laysWay_35 0 rfl ?_
      refine z_l_lt X dX12_laysWay_36 dX12_laysWay_37 rfl (fun hc36 => ?_) (fun hc36 => ?_)
      · have hf := ift hc36 hf
        refine z_aload_n X dX12_laysWay_42 1 rfl ?_
        refine z_iconst X dX12_laysWay_43 kc_0 ?_
        refine y_put X fl_RX12_450 dX12_laysWay_44 g1 rfl (by decide) ?_
        let h_1 : Hp := hput r19.2 l0 48 0
        refine z_lload_n X dX12_laysWay_47 2 rfl ?_
        refine z_lstore X dX12_laysWay_48 (by decide) (ls' := [(5, (1, l1)), (3, (1, r19.1)), (0, (2, l0)), (1, (1, l1))]) rfl ?_
        refine z_iconst X dX12_laysWay_50 kc_0 ?_
        refine z_istore X dX12_laysWay_51 (by decide) (ls' := [(7, (0, 0)), (5, (1, l1)), (3, (1, r19.1)), (0, (2, l0)), (1, (1, l1))]) rfl ?_
        obtain ⟨q53, hq53, hf⟩ := obE hf
        have hx53_0 : ∀ e108 : Int × Int × Hp, (.inl e108 : (Int × Int × Hp) ⊕ (Hp)) = q53 → ZV g x 10 e108.2.2 108 [(0, (2, l0)), (5, (1, e108.1)), (7, (0, e108.2.1))] [] := by
          intro e108 hq
          subst hq
          dsimp only at hf
          refine z_aload_n X dX12_laysWay_108 0 rfl ?_
          refine z_aload_n X dX12_laysWay_109 0 rfl ?_
          refine z_iload X dX12_laysWay_110 2 rfl ?_
          refine z_iconst X dX12_laysWay_112 kc_m1 ?_
          refine z_iconst X dX12_laysWay_113 kc_m1 ?_
          obtain ⟨r114, hr114, hf⟩ := obE hf
          refine y_V1 X cv_RX12_460 dX12_laysWay_114 g1 (c_M_newStep d (Nat.zero_le _) l0 e108.2.1 ((-1)) ((-1)) e108.2.2 r114 hr114) (as := [(0, e108.2.1), (0, (-1)), (0, (-1))]) rfl rfl (Nat.le_of_ble_eq_true rfl) z00 ?_
          refine z_iconst X dX12_laysWay_117 kc_1 ?_
          refine z_aload_n X dX12_laysWay_118 0 rfl ?_
          refine z_iload X dX12_laysWay_119 2 rfl ?_
          obtain ⟨r121, hr121, hf⟩ := obE hf
          refine y_V1 X cv_RX12_268 dX12_laysWay_121 g1 (c_M_root d (Nat.zero_le _) l0 e108.2.1 r114.2 r121 hr121) (as := [(0, e108.2.1)]) rfl rfl (Nat.le_of_ble_eq_true rfl) z00 ?_
          refine z_iconst X dX12_laysWay_124 kc_0 ?_
          refine z_aload_n X dX12_laysWay_125 0 rfl ?_
          refine y_get X fl_RX12_249 dX12_laysWay_126 g1 ?_
          refine z_iconst X dX12_laysWay_129 kc_m1 ?_
          refine z_iconst X dX12_laysWay_130 kc_m1 ?_
          refine z_lload X dX12_laysWay_131 1 rfl ?_
          obtain ⟨r133, hr133, hf⟩ := obE hf
          refine y_V0 X cv_RX12_463 dX12_laysWay_133 g1 (c_M_lays d l0 r114.1 1 r121 0 (r114.2 l0 34) ((-1)) ((-1)) e108.1 r114.2 r133 hr133) (as := [(0, r114.1), (0, 1), (0, r121), (0, 0), (0, r114.2 l0 34), (0, (-1)), (0, (-1)), (1, e108.1)]) rfl rfl (Nat.le_of_ble_eq_true rfl) z00 ?_
          refine z_iconst X dX12_laysWay_136 kc_0 ?_
          cases hf
          exact z_iret X hK dX12_laysWay_137
        have hx53_1 : ∀ e151 : Hp, (.inr e151 : (Int × Int × Hp) ⊕ (Hp)) = q53 → ZV g x 10 e151 151 [] [] := by
          intro e151 hq
          subst hq
          dsimp only at hf
          refine z_iconst X dX12_laysWay_151 kc_m1 ?_
          cases hf
          exact z_iret X hK dX12_laysWay_152
        exact z_weak [3, 1, 0] rfl (z_loop (Z := (fun q : Int × Int × Hp => ZV g x 10 q.2.2 53 [(0, (2, l0)), (5, (1, q.1)), (7, (0, q.2.1))] [])) (E := fun q => q = q53) (fun q y hb hk => z_M_laysWay_L53 X hd l0 (fun q => q = q53) hx53_0 hx53_1 q.1 q.2.1 q.2.2 y hb hk) LN (l1, 0, h_1) q53 hq53 rfl)
      · have hf := iff' hc36 hf
        refine z_iconst X dX12_laysWay_40 kc_m1 ?_
        cases hf
        exact z_iret X hK dX12_laysWay_41
    · have hf := iff' hc27 hf
      refine z_bipush X dX12_laysWay_31 kb_m3 kc_m3 ?_
      cases hf
      exact z_iret X hK dX12_laysWay_33
  · have hf := iff' hc2 hf
    refine z_bipush X dX12_laysWay_6 kb_m2 kc_m2 ?_
    cases hf
    exact z_iret X hK dX12_laysWay_8
set_option maxHeartbeats 4000000 in
set_option maxRecDepth 100000 in
theorem c_M_steps {l : Launch} {g : GP} (d : Nat) (hd : 4 ≤ d) (l0 l1 : Int) (h : Hp) (y : Int × Hp) (hf : M_steps d l0 l1 h = some y) : zM l yX12_steps cX12_steps 4 (some .int) d 0 0 g 157 h [(2, l0), (1, l1)] 157 y.2 (some (0, y.1)) := by
  obtain ⟨d, rfl⟩ : ∃ k, d = k + 1 := ⟨d - 1, by omega⟩
  replace hd : 3 ≤ d := Nat.le_of_succ_le_succ hd
  refine z_start (by decide) (Nat.le_of_ble_eq_true rfl) (fun x X hK _ _ _ hl => ?_)
  show ZV g x 4 h 0 [(0, (2, l0)), (1, (1, l1))] []
  unfold M_steps at hf
  refine z_aload_n X dX12_steps_0 0 rfl ?_
  refine z_lload_n X dX12_steps_1 1 rfl ?_
  obtain ⟨g1, hf⟩ := gif hf
  obtain ⟨r2, hr2, hf⟩ := obE hf
  refine y_V1 X cv_RX12_474 dX12_steps_2 g1 (c_M_laysWay d (Nat.le_trans (by decide) hd) l0 l1 h r2 hr2) (as := [(1, l1)]) rfl rfl (Nat.le_of_ble_eq_true rfl) z00 ?_
  refine z_istore_n X dX12_steps_5 (by decide) (ls' := [(3, (0, r2.1)), (0, (2, l0)), (1, (1, l1))]) rfl ?_
  refine z_iload_n X dX12_steps_6 0 rfl ?_
  refine z_if_eq X dX12_steps_7 rfl (fun hc7 => ?_) (fun hc7 => ?_)
  · rw [if_pos hc7] at hf
    refine z_aload_n X dX12_steps_14 1 rfl ?_
    refine y_get X fl_RX12_450 dX12_steps_15 g1 ?_
    cases hf
    exact z_iret X hK dX12_steps_18
  · rw [if_neg hc7] at hf
    refine z_iload_n X dX12_steps_10 0 rfl ?_
    refine z_goto X dX12_steps_11 rfl ?_
    cases hf
    exact z_iret X hK dX12_steps_18
set_option maxHeartbeats 4000000 in
set_option maxRecDepth 100000 in
theorem c_M_step {l : Launch} {g : GP} (d : Nat) (hd : 4 ≤ d) (l0 l1 l3 l4 : Int) (h : Hp) (y : Int × Hp) (hf : M_step d l0 l1 l3 l4 h = some y) : zM l yX12_step cX12_step 6 (some .int) d 0 0 g 157 h [(2, l0), (1, l1), (0, l3), (0, l4)] 157 y.2 (some (0, y.1)) := by
  obtain ⟨d, rfl⟩ : ∃ k, d = k + 1 := ⟨d - 1, by omega⟩
  replace hd : 3 ≤ d := Nat.le_of_succ_le_succ hd
  refine z_start (by decide) (Nat.le_of_ble_eq_true rfl) (fun x X hK _ _ _ hl => ?_)
  show ZV g x 6 h 0 [(0, (2, l0)), (1, (1, l1)), (3, (0, l3)), (4, (0, l4))] []
  unfold M_step at hf
  refine z_aload_n X dX12_step_0 0 rfl ?_
  refine z_lload_n X dX12_step_1 1 rfl ?_
  obtain ⟨g1, hf⟩ := gif hf
  obtain ⟨r2, hr2, hf⟩ := obE hf
  refine y_V1 X cv_RX12_474 dX12_step_2 g1 (c_M_laysWay d (Nat.le_trans (by decide) hd) l0 l1 h r2 hr2) (as := [(1, l1)]) rfl rfl (Nat.le_of_ble_eq_true rfl) z00 ?_
  refine z_istore X dX12_step_5 (by decide) (ls' := [(5, (0, r2.1)), (0, (2, l0)), (1, (1, l1)), (3, (0, l3)), (4, (0, l4))]) rfl ?_
  refine z_iload X dX12_step_7 0 rfl ?_
  refine z_if_eq X dX12_step_9 rfl (fun hc9 => ?_) (fun hc9 => ?_)
  · have hf := ift hc9 hf
    refine z_iload_n X dX12_step_15 3 rfl ?_
    refine z_i2l X dX12_step_16 ?_
    refine z_lconst0 X dX12_step_17 ?_
    refine z_aload_n X dX12_step_18 1 rfl ?_
    refine y_get X fl_RX12_450 dX12_step_19 g1 ?_
    refine z_iconst X dX12_step_22 kc_1 ?_
    refine z_isub X dX12_step_23 ?_
    refine z_i2l X dX12_step_24 ?_
    obtain ⟨r25, hr25, hf⟩ := obE hf
    refine y_S1 X cs_RX12_14 dX12_step_25 (c_M_in d (Nat.zero_le _) l3 0 (w32 ((r2.2 l0 48) - 1)) r2.2 r25 hr25) (as := [(1, l3), (1, 0), (1, w32 ((r2.2 l0 48) - 1))]) rfl rfl (Nat.le_of_ble_eq_true rfl) z00 ?_
    refine z_if_ne X dX12_step_28 rfl (fun hc28 => ?_) (fun hc28 => ?_)
    · have hf := iff' hc28 hf
      refine z_iload X dX12_step_34 4 rfl ?_
      by_cases hc36_0 : l4 = 0
      · have hf := ift hc36_0 hf
        refine z_tsIn X dX12_step_36 (by omega) (by omega) (by rw [hc36_0]; rfl) rfl ?_
        refine z_aload_n X dX12_step_68 1 rfl ?_
        refine y_get X fl_RX12_214 dX12_step_69 g1 ?_
        refine z_iload_n X dX12_step_72 3 rfl ?_
        obtain ⟨g2, hf⟩ := gif hf
        refine y_iald X dX12_step_73 g2 ?_
        cases hf
        exact z_iret X hK dX12_step_74
      · have hf := iff' hc36_0 hf
        by_cases hc36_1 : l4 = 1
        · have hf := ift hc36_1 hf
          refine z_tsIn X dX12_step_36 (by omega) (by omega) (by rw [hc36_1]; rfl) rfl ?_
          refine z_aload_n X dX12_step_75 1 rfl ?_
          refine y_get X fl_RX12_217 dX12_step_76 g1 ?_
          refine z_iload_n X dX12_step_79 3 rfl ?_
          obtain ⟨g3, hf⟩ := gif hf
          refine y_iald X dX12_step_80 g3 ?_
          cases hf
          exact z_iret X hK dX12_step_81
        · have hf := iff' hc36_1 hf
          by_cases hc36_2 : l4 = 2
          · have hf := ift hc36_2 hf
            refine z_tsIn X dX12_step_36 (by omega) (by omega) (by rw [hc36_2]; rfl) rfl ?_
            refine z_aload_n X dX12_step_82 1 rfl ?_
            refine y_get X fl_RX12_220 dX12_step_83 g1 ?_
            refine z_iload_n X dX12_step_86 3 rfl ?_
            obtain ⟨g4, hf⟩ := gif hf
            refine y_iald X dX12_step_87 g4 ?_
            cases hf
            exact z_iret X hK dX12_step_88
          · have hf := iff' hc36_2 hf
            by_cases hc36_3 : l4 = 3
            · have hf := ift hc36_3 hf
              refine z_tsIn X dX12_step_36 (by omega) (by omega) (by rw [hc36_3]; rfl) rfl ?_
              refine z_aload_n X dX12_step_89 1 rfl ?_
              refine y_get X fl_RX12_223 dX12_step_90 g1 ?_
              refine z_iload_n X dX12_step_93 3 rfl ?_
              obtain ⟨g5, hf⟩ := gif hf
              refine y_iald X dX12_step_94 g5 ?_
              cases hf
              exact z_iret X hK dX12_step_95
            · have hf := iff' hc36_3 hf
              refine z_tsOut X dX12_step_36 (by omega) rfl ?_
              refine z_bipush X dX12_step_96 kb_m2 kc_m2 ?_
              cases hf
              exact z_iret X hK dX12_step_98
    · have hf := ift hc28 hf
      refine z_bipush X dX12_step_31 kb_m2 kc_m2 ?_
      cases hf
      exact z_iret X hK dX12_step_33
  · have hf := iff' hc9 hf
    refine z_iload X dX12_step_12 0 rfl ?_
    cases hf
    exact z_iret X hK dX12_step_14
set_option maxHeartbeats 4000000 in
set_option maxRecDepth 100000 in
theorem c_M_whose {l : Launch} {g : GP} (d : Nat) (hd : 4 ≤ d) (l0 l1 l3 l4 : Int) (h : Hp) (y : Int × Hp) (hf : M_whose d l0 l1 l3 l4 h = some y) : zM l yX12_whose cX12_whose 6 (some .int) d 0 0 g 157 h [(2, l0), (1, l1), (0, l3), (0, l4)] 157 y.2 (some (0, y.1)) := by
  obtain ⟨d, rfl⟩ : ∃ k, d = k + 1 := ⟨d - 1, by omega⟩
  replace hd : 3 ≤ d := Nat.le_of_succ_le_succ hd
  refine z_start (by decide) (Nat.le_of_ble_eq_true rfl) (fun x X hK _ _ _ hl => ?_)
  show ZV g x 6 h 0 [(0, (2, l0)), (1, (1, l1)), (3, (0, l3)), (4, (0, l4))] []
  unfold M_whose at hf
  refine z_aload_n X dX12_whose_0 0 rfl ?_
  refine z_lload_n X dX12_whose_1 1 rfl ?_
  obtain ⟨g1, hf⟩ := gif hf
  obtain ⟨r2, hr2, hf⟩ := obE hf
  refine y_V1 X cv_RX12_474 dX12_whose_2 g1 (c_M_laysWay d (Nat.le_trans (by decide) hd) l0 l1 h r2 hr2) (as := [(1, l1)]) rfl rfl (Nat.le_of_ble_eq_true rfl) z00 ?_
  refine z_istore X dX12_whose_5 (by decide) (ls' := [(5, (0, r2.1)), (0, (2, l0)), (1, (1, l1)), (3, (0, l3)), (4, (0, l4))]) rfl ?_
  refine z_iload X dX12_whose_7 0 rfl ?_
  refine z_if_eq X dX12_whose_9 rfl (fun hc9 => ?_) (fun hc9 => ?_)
  · have hf := ift hc9 hf
    refine z_iload_n X dX12_whose_15 3 rfl ?_
    refine z_i2l X dX12_whose_16 ?_
    refine z_lconst0 X dX12_whose_17 ?_
    refine z_aload_n X dX12_whose_18 1 rfl ?_
    refine y_get X fl_RX12_171 dX12_whose_19 g1 ?_
    refine z_iconst X dX12_whose_22 kc_1 ?_
    refine z_isub X dX12_whose_23 ?_
    refine z_i2l X dX12_whose_24 ?_
    obtain ⟨r25, hr25, hf⟩ := obE hf
    refine y_S1 X cs_RX12_14 dX12_whose_25 (c_M_in d (Nat.zero_le _) l3 0 (w32 ((r2.2 l0 32) - 1)) r2.2 r25 hr25) (as := [(1, l3), (1, 0), (1, w32 ((r2.2 l0 32) - 1))]) rfl rfl (Nat.le_of_ble_eq_true rfl) z00 ?_
    refine z_if_eq X dX12_whose_28 rfl (fun hc28 => ?_) (fun hc28 => ?_)
    · have hf := ift hc28 hf
      refine z_bipush X dX12_whose_42 kb_m2 kc_m2 ?_
      cases hf
      exact z_iret X hK dX12_whose_44
    · have hf := iff' hc28 hf
      refine z_iload X dX12_whose_31 4 rfl ?_
      refine z_i2l X dX12_whose_33 ?_
      refine z_lconst0 X dX12_whose_34 ?_
      refine z_lconst1 X dX12_whose_35 ?_
      obtain ⟨r36, hr36, hf⟩ := obE hf
      refine y_S1 X cs_RX12_14 dX12_whose_36 (c_M_in d (Nat.zero_le _) l4 0 1 r2.2 r36 hr36) (as := [(1, l4), (1, 0), (1, 1)]) rfl rfl (Nat.le_of_ble_eq_true rfl) z00 ?_
      refine z_if_ne X dX12_whose_39 rfl (fun hc39 => ?_) (fun hc39 => ?_)
      · have hf := iff' hc39 hf
        refine z_iload X dX12_whose_45 4 rfl ?_
        refine z_if_ne X dX12_whose_47 rfl (fun hc47 => ?_) (fun hc47 => ?_)
        · have hf := iff' hc47 hf
          refine z_aload_n X dX12_whose_59 1 rfl ?_
          refine y_get X fl_RX12_232 dX12_whose_60 g1 ?_
          refine z_iload_n X dX12_whose_63 3 rfl ?_
          obtain ⟨g2, hf⟩ := gif hf
          refine y_iald X dX12_whose_64 g2 ?_
          cases hf
          exact z_iret X hK dX12_whose_65
        · have hf := ift hc47 hf
          refine z_aload_n X dX12_whose_50 1 rfl ?_
          refine y_get X fl_RX12_229 dX12_whose_51 g1 ?_
          refine z_iload_n X dX12_whose_54 3 rfl ?_
          obtain ⟨g3, hf⟩ := gif hf
          refine y_iald X dX12_whose_55 g3 ?_
          refine z_goto X dX12_whose_56 rfl ?_
          cases hf
          exact z_iret X hK dX12_whose_65
      · have hf := ift hc39 hf
        refine z_bipush X dX12_whose_42 kb_m2 kc_m2 ?_
        cases hf
        exact z_iret X hK dX12_whose_44
  · have hf := iff' hc9 hf
    refine z_iload X dX12_whose_12 0 rfl ?_
    cases hf
    exact z_iret X hK dX12_whose_14
set_option maxHeartbeats 4000000 in
set_option maxRecDepth 100000 in
theorem z_M_isArc_j39 {g : GP} {x : CX} {d : Nat} (X : zX g x RX12 cX12_isArc 2 d) (h : Hp) (y : Int) (hf : M_isArc_j39 h = some y) (hK : zE g x (some .boolean) 0 0 157 h (some (0, y))) : ZV g x 2 h 39 [] [] := by
  unfold M_isArc_j39 at hf
  refine z_iconst X dX12_isArc_39 kc_0 ?_
  cases hf
  exact z_zret X hK (Or.inl rfl) dX12_isArc_40
set_option maxHeartbeats 4000000 in
set_option maxRecDepth 100000 in
theorem c_M_isArc {l : Launch} {g : GP} (d : Nat) (hd : 0 ≤ d) (l0 l1 : Int) (h : Hp) (y : Int) (hf : M_isArc l0 l1 h = some y) : zM l yX12_isArc cX12_isArc 2 (some .boolean) d 0 0 g 157 h [(2, l0), (0, l1)] 157 h (some (0, y)) := by
  refine z_start (by decide) (Nat.le_of_ble_eq_true rfl) (fun x X hK _ _ _ hl => ?_)
  show ZV g x 2 h 0 [(0, (2, l0)), (1, (0, l1))] []
  unfold M_isArc at hf
  refine z_aload_n X dX12_isArc_0 0 rfl ?_
  obtain ⟨g1, hf⟩ := gif hf
  refine y_get X fl_RX12_217 dX12_isArc_1 g1 ?_
  refine z_iload_n X dX12_isArc_4 1 rfl ?_
  obtain ⟨g2, hf⟩ := gif hf
  refine y_iald X dX12_isArc_5 g2 ?_
  refine z_iconst X dX12_isArc_6 kc_m1 ?_
  refine z_icmp_eq X dX12_isArc_7 rfl (fun hc7 => ?_) (fun hc7 => ?_)
  · have hf := ift hc7 hf
    exact z_weak [] rfl (z_M_isArc_j39 X  h _ hf hK)
  · have hf := iff' hc7 hf
    refine z_aload_n X dX12_isArc_10 0 rfl ?_
    refine y_get X fl_RX12_223 dX12_isArc_11 g1 ?_
    refine z_iload_n X dX12_isArc_14 1 rfl ?_
    obtain ⟨g3, hf⟩ := gif hf
    refine y_iald X dX12_isArc_15 g3 ?_
    refine z_iconst X dX12_isArc_16 kc_m1 ?_
    refine z_icmp_eq X dX12_isArc_17 rfl (fun hc17 => ?_) (fun hc17 => ?_)
    · have hf := ift hc17 hf
      exact z_weak [] rfl (z_M_isArc_j39 X  h _ hf hK)
    · have hf := iff' hc17 hf
      refine z_aload_n X dX12_isArc_20 0 rfl ?_
      refine y_get X fl_RX12_223 dX12_isArc_21 g1 ?_
      refine z_aload_n X dX12_isArc_24 0 rfl ?_
      refine y_get X fl_RX12_217 dX12_isArc_25 g1 ?_
      refine z_iload_n X dX12_isArc_28 1 rfl ?_
      refine y_iald X dX12_isArc_29 g2 ?_
      obtain ⟨g4, hf⟩ := gif hf
      refine y_iald X dX12_isArc_30 g4 ?_
      refine z_iconst X dX12_isArc_31 kc_m1 ?_
      refine z_icmp_eq X dX12_isArc_32 rfl (fun hc32 => ?_) (fun hc32 => ?_)
      · have hf := ift hc32 hf
        exact z_weak [] rfl (z_M_isArc_j39 X  h _ hf hK)
      · have hf := iff' hc32 hf
        refine z_iconst X dX12_isArc_35 kc_1 ?_
        refine z_goto X dX12_isArc_36 rfl ?_
        cases hf
        exact z_zret X hK (Or.inr rfl) dX12_isArc_40
set_option maxHeartbeats 4000000 in
set_option maxRecDepth 100000 in
theorem c_M_lowOf {l : Launch} {g : GP} (d : Nat) (hd : 1 ≤ d) (l0 l1 : Int) (h : Hp) (y : Int) (hf : M_lowOf l0 l1 h = some y) : zM l yX12_lowOf cX12_lowOf 2 (some .int) d 0 0 g 157 h [(2, l0), (0, l1)] 157 h (some (0, y)) := by
  obtain ⟨d, rfl⟩ : ∃ k, d = k + 1 := ⟨d - 1, by omega⟩
  replace hd : 0 ≤ d := Nat.le_of_succ_le_succ hd
  refine z_start (by decide) (Nat.le_of_ble_eq_true rfl) (fun x X hK _ _ _ hl => ?_)
  show ZV g x 2 h 0 [(0, (2, l0)), (1, (0, l1))] []
  unfold M_lowOf at hf
  refine z_aload_n X dX12_lowOf_0 0 rfl ?_
  obtain ⟨g1, hf⟩ := gif hf
  refine y_get X fl_RX12_223 dX12_lowOf_1 g1 ?_
  refine z_iload_n X dX12_lowOf_4 1 rfl ?_
  obtain ⟨g2, hf⟩ := gif hf
  refine y_iald X dX12_lowOf_5 g2 ?_
  refine z_aload_n X dX12_lowOf_6 0 rfl ?_
  refine y_get X fl_RX12_223 dX12_lowOf_7 g1 ?_
  refine z_aload_n X dX12_lowOf_10 0 rfl ?_
  refine y_get X fl_RX12_217 dX12_lowOf_11 g1 ?_
  refine z_iload_n X dX12_lowOf_14 1 rfl ?_
  obtain ⟨g3, hf⟩ := gif hf
  refine y_iald X dX12_lowOf_15 g3 ?_
  obtain ⟨g4, hf⟩ := gif hf
  refine y_iald X dX12_lowOf_16 g4 ?_
  refine y_min X cm_RX12_330 dX12_lowOf_17 (Nat.le_of_ble_eq_true rfl) ?_
  cases hf
  exact z_iret X hK dX12_lowOf_20
set_option maxHeartbeats 4000000 in
set_option maxRecDepth 100000 in
theorem c_M_highOf {l : Launch} {g : GP} (d : Nat) (hd : 1 ≤ d) (l0 l1 : Int) (h : Hp) (y : Int) (hf : M_highOf l0 l1 h = some y) : zM l yX12_highOf cX12_highOf 2 (some .int) d 0 0 g 157 h [(2, l0), (0, l1)] 157 h (some (0, y)) := by
  obtain ⟨d, rfl⟩ : ∃ k, d = k + 1 := ⟨d - 1, by omega⟩
  replace hd : 0 ≤ d := Nat.le_of_succ_le_succ hd
  refine z_start (by decide) (Nat.le_of_ble_eq_true rfl) (fun x X hK _ _ _ hl => ?_)
  show ZV g x 2 h 0 [(0, (2, l0)), (1, (0, l1))] []
  unfold M_highOf at hf
  refine z_aload_n X dX12_highOf_0 0 rfl ?_
  obtain ⟨g1, hf⟩ := gif hf
  refine y_get X fl_RX12_223 dX12_highOf_1 g1 ?_
  refine z_iload_n X dX12_highOf_4 1 rfl ?_
  obtain ⟨g2, hf⟩ := gif hf
  refine y_iald X dX12_highOf_5 g2 ?_
  refine z_aload_n X dX12_highOf_6 0 rfl ?_
  refine y_get X fl_RX12_223 dX12_highOf_7 g1 ?_
  refine z_aload_n X dX12_highOf_10 0 rfl ?_
  refine y_get X fl_RX12_217 dX12_highOf_11 g1 ?_
  refine z_iload_n X dX12_highOf_14 1 rfl ?_
  obtain ⟨g3, hf⟩ := gif hf
  refine y_iald X dX12_highOf_15 g3 ?_
  obtain ⟨g4, hf⟩ := gif hf
  refine y_iald X dX12_highOf_16 g4 ?_
  refine y_max X cm_RX12_327 dX12_highOf_17 (Nat.le_of_ble_eq_true rfl) ?_
  cases hf
  exact z_iret X hK dX12_highOf_20
set_option maxHeartbeats 4000000 in
set_option maxRecDepth 100000 in
theorem z_M_isBetween_j22 {g : GP} {x : CX} {d : Nat} (X : zX g x RX12 cX12_isBetween 3 (d + 1)) (hd : 1 ≤ d) (h : Hp) (y : Int) (hf : M_isBetween_j22 h = some y) (hK : zE g x (some .boolean) 0 0 157 h (some (0, y))) : ZV g x 3 h 22 [] [] := by
  unfold M_isBetween_j22 at hf
  refine z_iconst X dX12_isBetween_22 kc_0 ?_
  cases hf
  exact z_zret X hK (Or.inl rfl) dX12_isBetween_23
set_option maxHeartbeats 4000000 in
set_option maxRecDepth 100000 in
theorem c_M_isBetween {l : Launch} {g : GP} (d : Nat) (hd : 2 ≤ d) (l0 l1 l2 : Int) (h : Hp) (y : Int) (hf : M_isBetween l0 l1 l2 h = some y) : zM l yX12_isBetween cX12_isBetween 3 (some .boolean) d 0 0 g 157 h [(2, l0), (0, l1), (0, l2)] 157 h (some (0, y)) := by
  obtain ⟨d, rfl⟩ : ∃ k, d = k + 1 := ⟨d - 1, by omega⟩
  replace hd : 1 ≤ d := Nat.le_of_succ_le_succ hd
  refine z_start (by decide) (Nat.le_of_ble_eq_true rfl) (fun x X hK _ _ _ hl => ?_)
  show ZV g x 3 h 0 [(0, (2, l0)), (1, (0, l1)), (2, (0, l2))] []
  unfold M_isBetween at hf
  refine z_iload_n X dX12_isBetween_0 1 rfl ?_
  refine z_aload_n X dX12_isBetween_1 0 rfl ?_
  refine z_iload_n X dX12_isBetween_2 2 rfl ?_
  obtain ⟨g1, hf⟩ := gif hf
  obtain ⟨r3, hr3, hf⟩ := obE hf
  refine y_V1 X cv_RX12_478 dX12_isBetween_3 g1 (c_M_lowOf d (Nat.le_trans (by decide) hd) l0 l2 h r3 hr3) (as := [(0, l2)]) rfl rfl (Nat.le_of_ble_eq_true rfl) z00 ?_
  refine z_icmp_le X dX12_isBetween_6 rfl (fun hc6 => ?_) (fun hc6 => ?_)
  · have hf := ift hc6 hf
    exact z_weak [] rfl (z_M_isBetween_j22 X hd  h _ hf hK)
  · have hf := iff' hc6 hf
    refine z_iload_n X dX12_isBetween_9 1 rfl ?_
    refine z_aload_n X dX12_isBetween_10 0 rfl ?_
    refine z_iload_n X dX12_isBetween_11 2 rfl ?_
    obtain ⟨r12, hr12, hf⟩ := obE hf
    refine y_V1 X cv_RX12_481 dX12_isBetween_12 g1 (c_M_highOf d (Nat.le_trans (by decide) hd) l0 l2 h r12 hr12) (as := [(0, l2)]) rfl rfl (Nat.le_of_ble_eq_true rfl) z00 ?_
    refine z_icmp_ge X dX12_isBetween_15 rfl (fun hc15 => ?_) (fun hc15 => ?_)
    · have hf := ift hc15 hf
      exact z_weak [] rfl (z_M_isBetween_j22 X hd  h _ hf hK)
    · have hf := iff' hc15 hf
      refine z_iconst X dX12_isBetween_18 kc_1 ?_
      refine z_goto X dX12_isBetween_19 rfl ?_
      cases hf
      exact z_zret X hK (Or.inr rfl) dX12_isBetween_23
set_option maxHeartbeats 4000000 in
set_option maxRecDepth 100000 in
theorem c_M_doCross {l : Launch} {g : GP} (d : Nat) (hd : 3 ≤ d) (l0 l1 l2 : Int) (h : Hp) (y : Int) (hf : M_doCross l0 l1 l2 h = some y) : zM l yX12_doCross cX12_doCross 3 (some .boolean) d 0 0 g 157 h [(2, l0), (0, l1), (0, l2)] 157 h (some (0, y)) := by
  obtain ⟨d, rfl⟩ : ∃ k, d = k + 1 := ⟨d - 1, by omega⟩
  replace hd : 2 ≤ d := Nat.le_of_succ_le_succ hd
  refine z_start (by decide) (Nat.le_of_ble_eq_true rfl) (fun x X hK _ _ _ hl => ?_)
  show ZV g x 3 h 0 [(0, (2, l0)), (1, (0, l1)), (2, (0, l2))] []
  unfold M_doCross at hf
  refine z_aload_n X dX12_doCross_0 0 rfl ?_
  refine z_iload_n X dX12_doCross_1 1 rfl ?_
  obtain ⟨g1, hf⟩ := gif hf
  obtain ⟨r2, hr2, hf⟩ := obE hf
  refine y_V1 X cv_RX12_478 dX12_doCross_2 g1 (c_M_lowOf d (Nat.le_trans (by decide) hd) l0 l1 h r2 hr2) (as := [(0, l1)]) rfl rfl (Nat.le_of_ble_eq_true rfl) z00 ?_
  refine z_aload_n X dX12_doCross_5 0 rfl ?_
  refine z_iload_n X dX12_doCross_6 2 rfl ?_
  obtain ⟨r7, hr7, hf⟩ := obE hf
  refine y_V1 X cv_RX12_478 dX12_doCross_7 g1 (c_M_lowOf d (Nat.le_trans (by decide) hd) l0 l2 h r7 hr7) (as := [(0, l2)]) rfl rfl (Nat.le_of_ble_eq_true rfl) z00 ?_
  refine z_icmp_eq X dX12_doCross_10 rfl (fun hc10 => ?_) (fun hc10 => ?_)
  · have hf := ift hc10 hf
    refine z_iconst X dX12_doCross_52 kc_0 ?_
    cases hf
    exact z_zret X hK (Or.inl rfl) dX12_doCross_53
  · have hf := iff' hc10 hf
    refine z_aload_n X dX12_doCross_13 0 rfl ?_
    refine z_iload_n X dX12_doCross_14 1 rfl ?_
    obtain ⟨r15, hr15, hf⟩ := obE hf
    refine y_V1 X cv_RX12_478 dX12_doCross_15 g1 (c_M_lowOf d (Nat.le_trans (by decide) hd) l0 l1 h r15 hr15) (as := [(0, l1)]) rfl rfl (Nat.le_of_ble_eq_true rfl) z00 ?_
    refine z_aload_n X dX12_doCross_18 0 rfl ?_
    refine z_iload_n X dX12_doCross_19 2 rfl ?_
    obtain ⟨r20, hr20, hf⟩ := obE hf
    refine y_V1 X cv_RX12_481 dX12_doCross_20 g1 (c_M_highOf d (Nat.le_trans (by decide) hd) l0 l2 h r20 hr20) (as := [(0, l2)]) rfl rfl (Nat.le_of_ble_eq_true rfl) z00 ?_
    refine z_icmp_eq X dX12_doCross_23 rfl (fun hc23 => ?_) (fun hc23 => ?_)
    · have hf := ift hc23 hf
      refine z_iconst X dX12_doCross_52 kc_0 ?_
      cases hf
      exact z_zret X hK (Or.inl rfl) dX12_doCross_53
    · have hf := iff' hc23 hf
      refine z_aload_n X dX12_doCross_26 0 rfl ?_
      refine z_iload_n X dX12_doCross_27 1 rfl ?_
      obtain ⟨r28, hr28, hf⟩ := obE hf
      refine y_V1 X cv_RX12_481 dX12_doCross_28 g1 (c_M_highOf d (Nat.le_trans (by decide) hd) l0 l1 h r28 hr28) (as := [(0, l1)]) rfl rfl (Nat.le_of_ble_eq_true rfl) z00 ?_
      refine z_aload_n X dX12_doCross_31 0 rfl ?_
      refine z_iload_n X dX12_doCross_32 2 rfl ?_
      obtain ⟨r33, hr33, hf⟩ := obE hf
      refine y_V1 X cv_RX12_478 dX12_doCross_33 g1 (c_M_lowOf d (Nat.le_trans (by decide) hd) l0 l2 h r33 hr33) (as := [(0, l2)]) rfl rfl (Nat.le_of_ble_eq_true rfl) z00 ?_
      refine z_icmp_eq X dX12_doCross_36 rfl (fun hc36 => ?_) (fun hc36 => ?_)
      · have hf := ift hc36 hf
        refine z_iconst X dX12_doCross_52 kc_0 ?_
        cases hf
        exact z_zret X hK (Or.inl rfl) dX12_doCross_53
      · have hf := iff' hc36 hf
        refine z_aload_n X dX12_doCross_39 0 rfl ?_
        refine z_iload_n X dX12_doCross_40 1 rfl ?_
        obtain ⟨r41, hr41, hf⟩ := obE hf
        refine y_V1 X cv_RX12_481 dX12_doCross_41 g1 (c_M_highOf d (Nat.le_trans (by decide) hd) l0 l1 h r41 hr41) (as := [(0, l1)]) rfl rfl (Nat.le_of_ble_eq_true rfl) z00 ?_
        refine z_aload_n X dX12_doCross_44 0 rfl ?_
        refine z_iload_n X dX12_doCross_45 2 rfl ?_
        obtain ⟨r46, hr46, hf⟩ := obE hf
        refine y_V1 X cv_RX12_481 dX12_doCross_46 g1 (c_M_highOf d (Nat.le_trans (by decide) hd) l0 l2 h r46 hr46) (as := [(0, l2)]) rfl rfl (Nat.le_of_ble_eq_true rfl) z00 ?_
        refine z_icmp_ne X dX12_doCross_49 rfl (fun hc49 => ?_) (fun hc49 => ?_)
        · have hf := iff' hc49 hf
          refine z_aload_n X dX12_doCross_54 0 rfl ?_
          refine z_aload_n X dX12_doCross_55 0 rfl ?_
          refine z_iload_n X dX12_doCross_56 1 rfl ?_
          obtain ⟨r57, hr57, hf⟩ := obE hf
          refine y_V1 X cv_RX12_478 dX12_doCross_57 g1 (c_M_lowOf d (Nat.le_trans (by decide) hd) l0 l1 h r57 hr57) (as := [(0, l1)]) rfl rfl (Nat.le_of_ble_eq_true rfl) z00 ?_
          refine z_iload_n X dX12_doCross_60 2 rfl ?_
          obtain ⟨r61, hr61, hf⟩ := obE hf
          refine y_V1 X cv_RX12_484 dX12_doCross_61 g1 (c_M_isBetween d (Nat.le_trans (by decide) hd) l0 r57 l2 h r61 hr61) (as := [(0, r57), (0, l2)]) rfl rfl (Nat.le_of_ble_eq_true rfl) z00 ?_
          refine z_aload_n X dX12_doCross_64 0 rfl ?_
          refine z_aload_n X dX12_doCross_65 0 rfl ?_
          refine z_iload_n X dX12_doCross_66 1 rfl ?_
          obtain ⟨r67, hr67, hf⟩ := obE hf
          refine y_V1 X cv_RX12_481 dX12_doCross_67 g1 (c_M_highOf d (Nat.le_trans (by decide) hd) l0 l1 h r67 hr67) (as := [(0, l1)]) rfl rfl (Nat.le_of_ble_eq_true rfl) z00 ?_
          refine z_iload_n X dX12_doCross_70 2 rfl ?_
          obtain ⟨r71, hr71, hf⟩ := obE hf
          refine y_V1 X cv_RX12_484 dX12_doCross_71 g1 (c_M_isBetween d (Nat.le_trans (by decide) hd) l0 r67 l2 h r71 hr71) (as := [(0, r67), (0, l2)]) rfl rfl (Nat.le_of_ble_eq_true rfl) z00 ?_
          refine z_icmp_eq X dX12_doCross_74 rfl (fun hc74 => ?_) (fun hc74 => ?_)
          · rw [if_pos hc74] at hf
            refine z_iconst X dX12_doCross_81 kc_0 ?_
            cases hf
            exact z_zret X hK (Or.inl rfl) dX12_doCross_82
          · rw [if_neg hc74] at hf
            refine z_iconst X dX12_doCross_77 kc_1 ?_
            refine z_goto X dX12_doCross_78 rfl ?_
            cases hf
            exact z_zret X hK (Or.inr rfl) dX12_doCross_82
        · have hf := ift hc49 hf
          refine z_iconst X dX12_doCross_52 kc_0 ?_
          cases hf
          exact z_zret X hK (Or.inl rfl) dX12_doCross_53
set_option maxHeartbeats 4000000 in
set_option maxRecDepth 100000 in
theorem z_M_arcs_j123 {g : GP} {x : CX} {d : Nat} (X : zX g x RX12 cX12_arcs 10 (d + 1)) (hd : 3 ≤ d) (l0 l3 l5 l7 l8 l9 s0 s1 : Int) (h : Hp) (y : (Int × Int) ⊕ (Int)) (hf : M_arcs_j123 (d + 1) l0 l3 l5 l7 l8 l9 s0 s1 h = some y) (E : Int → Prop) (hx0 : ∀ e : Int, E (e) → ZV g x 10 h 132 [(0, (2, l0)), (3, (0, l3)), (5, (0, l5)), (6, (0, e)), (7, (0, l7)), (8, (0, l8))] []) (hk : z_sum (fun q : Int × Int => ZV g x 10 h 89 [(0, (2, l0)), (3, (0, l3)), (5, (0, l5)), (6, (0, q.1)), (7, (0, l7)), (8, (0, l8)), (9, (0, q.2))] []) E y) : ZV g x 10 h 123 [(0, (2, l0)), (3, (0, l3)), (5, (0, l5)), (7, (0, l7)), (8, (0, l8)), (9, (0, l9))] [(0, s0), (0, s1)] := by
  unfold M_arcs_j123 at hf
  refine z_iadd X dX12_arcs_123 ?_
  refine z_istore X dX12_arcs_124 (by decide) (ls' := [(6, (0, w32 (s1 + s0))), (0, (2, l0)), (3, (0, l3)), (5, (0, l5)), (7, (0, l7)), (8, (0, l8)), (9, (0, l9))]) rfl ?_
  refine z_iinc X dX12_arcs_126 6 rfl (by decide) (ls' := [(9, (0, w32 (l9 + 1))), (6, (0, w32 (s1 + s0))), (0, (2, l0)), (3, (0, l3)), (5, (0, l5)), (7, (0, l7)), (8, (0, l8))]) rfl ?_
  refine z_goto X dX12_arcs_129 rfl ?_
  cases hf
  exact z_weak [2, 3, 4, 1, 5, 6, 0] rfl hk
set_option maxHeartbeats 4000000 in
set_option maxRecDepth 100000 in
theorem z_M_arcs_j122 {g : GP} {x : CX} {d : Nat} (X : zX g x RX12 cX12_arcs 10 (d + 1)) (hd : 3 ≤ d) (l0 l3 l5 l7 l8 l9 s0 : Int) (h : Hp) (y : (Int × Int) ⊕ (Int)) (hf : M_arcs_j122 (d + 1) l0 l3 l5 l7 l8 l9 s0 h = some y) (E : Int → Prop) (hx0 : ∀ e : Int, E (e) → ZV g x 10 h 132 [(0, (2, l0)), (3, (0, l3)), (5, (0, l5)), (6, (0, e)), (7, (0, l7)), (8, (0, l8))] []) (hk : z_sum (fun q : Int × Int => ZV g x 10 h 89 [(0, (2, l0)), (3, (0, l3)), (5, (0, l5)), (6, (0, q.1)), (7, (0, l7)), (8, (0, l8)), (9, (0, q.2))] []) E y) : ZV g x 10 h 122 [(0, (2, l0)), (3, (0, l3)), (5, (0, l5)), (7, (0, l7)), (8, (0, l8)), (9, (0, l9))] [(0, s0)] := by
  unfold M_arcs_j122 at hf
  refine z_iconst X dX12_arcs_122 kc_0 ?_
  exact (z_M_arcs_j123 X hd l0 l3 l5 l7 l8 l9 0 s0 h _ hf E hx0 hk)
set_option maxHeartbeats 4000000 in
set_option maxRecDepth 100000 in
theorem z_M_arcs_L89 {g : GP} {x : CX} {d : Nat} (X : zX g x RX12 cX12_arcs 10 (d + 1)) (hd : 3 ≤ d) (l0 l3 l5 l7 l8 : Int) (h : Hp) (E : Int → Prop) (hx0 : ∀ e : Int, E (e) → ZV g x 10 h 132 [(0, (2, l0)), (3, (0, l3)), (5, (0, l5)), (6, (0, e)), (7, (0, l7)), (8, (0, l8))] []) (l6 l9 : Int) (y : (Int × Int) ⊕ (Int)) (hf : M_arcs_L89 (d + 1) l0 l3 l5 l7 l8 h l6 l9 = some y) (hk : z_sum (fun q : Int × Int => ZV g x 10 h 89 [(0, (2, l0)), (3, (0, l3)), (5, (0, l5)), (6, (0, q.1)), (7, (0, l7)), (8, (0, l8)), (9, (0, q.2))] []) E y) : ZV g x 10 h 89 [(0, (2, l0)), (3, (0, l3)), (5, (0, l5)), (6, (0, l6)), (7, (0, l7)), (8, (0, l8)), (9, (0, l9))] [] := by
  unfold M_arcs_L89 at hf
  refine z_iload X dX12_arcs_89 6 rfl ?_
  refine z_iload X dX12_arcs_91 5 rfl ?_
  refine z_icmp_ge X dX12_arcs_93 rfl (fun hc93 => ?_) (fun hc93 => ?_)
  · have hf := ift hc93 hf
    cases hf
    exact z_weak [0, 1, 2, 3, 4, 5] rfl (hx0 _ hk)
  · have hf := iff' hc93 hf
    refine z_iload X dX12_arcs_96 3 rfl ?_
    refine z_aload_n X dX12_arcs_98 0 rfl ?_
    refine z_iload X dX12_arcs_99 6 rfl ?_
    obtain ⟨g3, hf⟩ := gif hf
    obtain ⟨r101, hr101, hf⟩ := obE hf
    refine y_V1 X cv_RX12_487 dX12_arcs_101 g3 (c_M_isArc d (Nat.zero_le _) l0 l9 h r101 hr101) (as := [(0, l9)]) rfl rfl (Nat.le_of_ble_eq_true rfl) z00 ?_
    refine z_if_eq X dX12_arcs_104 rfl (fun hc104 => ?_) (fun hc104 => ?_)
    · have hf := ift hc104 hf
      exact z_weak [0, 1, 2, 4, 5, 6] rfl (z_M_arcs_j122 X hd l0 l3 l5 l7 l8 l9 l6 h _ hf E hx0 hk)
    · have hf := iff' hc104 hf
      refine z_aload_n X dX12_arcs_107 0 rfl ?_
      refine z_iload X dX12_arcs_108 5 rfl ?_
      refine z_iload X dX12_arcs_110 6 rfl ?_
      obtain ⟨r112, hr112, hf⟩ := obE hf
      refine y_V1 X cv_RX12_490 dX12_arcs_112 g3 (c_M_doCross d (Nat.le_trans (by decide) hd) l0 l8 l9 h r112 hr112) (as := [(0, l8), (0, l9)]) rfl rfl (Nat.le_of_ble_eq_true rfl) z00 ?_
      refine z_if_eq X dX12_arcs_115 rfl (fun hc115 => ?_) (fun hc115 => ?_)
      · have hf := ift hc115 hf
        exact z_weak [0, 1, 2, 4, 5, 6] rfl (z_M_arcs_j122 X hd l0 l3 l5 l7 l8 l9 l6 h _ hf E hx0 hk)
      · have hf := iff' hc115 hf
        refine z_iconst X dX12_arcs_118 kc_1 ?_
        refine z_goto X dX12_arcs_119 rfl ?_
        exact z_weak [0, 1, 2, 4, 5, 6] rfl (z_M_arcs_j123 X hd l0 l3 l5 l7 l8 l9 1 l6 h _ hf E hx0 hk)
set_option maxHeartbeats 4000000 in
set_option maxRecDepth 100000 in
theorem z_M_arcs_j132 {g : GP} {x : CX} {d : Nat} (X : zX g x RX12 cX12_arcs 10 (d + 1)) (hd : 3 ≤ d) (l0 l3 l5 l6 l7 l8 : Int) (h : Hp) (y : (Int × Int × Int × Int) ⊕ (Int × Int × Int)) (hf : M_arcs_j132 (d + 1) l0 l3 l5 l6 l7 l8 h = some y) (E : Int × Int × Int → Prop) (hx0 : ∀ e : Int × Int × Int, E (e) → ZV g x 10 h 138 [(3, (0, l3)), (5, (0, e.1)), (6, (0, e.2.1)), (7, (0, e.2.2))] []) (hk : z_sum (fun q : Int × Int × Int × Int => ZV g x 10 h 42 [(0, (2, l0)), (3, (0, l3)), (5, (0, q.1)), (6, (0, q.2.1)), (7, (0, q.2.2.1)), (8, (0, q.2.2.2))] []) E y) : ZV g x 10 h 132 [(0, (2, l0)), (3, (0, l3)), (5, (0, l5)), (6, (0, l6)), (7, (0, l7)), (8, (0, l8))] [] := by
  unfold M_arcs_j132 at hf
  refine z_iinc X dX12_arcs_132 5 rfl (by decide) (ls' := [(8, (0, w32 (l8 + 1))), (0, (2, l0)), (3, (0, l3)), (5, (0, l5)), (6, (0, l6)), (7, (0, l7))]) rfl ?_
  refine z_goto X dX12_arcs_135 rfl ?_
  cases hf
  exact z_weak [1, 2, 3, 4, 5, 0] rfl hk
set_option maxHeartbeats 4000000 in
set_option maxRecDepth 100000 in
theorem z_M_arcs_L42 {g : GP} {x : CX} {d : Nat} (X : zX g x RX12 cX12_arcs 10 (d + 1)) (hd : 3 ≤ d) (l0 l3 : Int) (h : Hp) (E : Int × Int × Int → Prop) (hx0 : ∀ e : Int × Int × Int, E (e) → ZV g x 10 h 138 [(3, (0, l3)), (5, (0, e.1)), (6, (0, e.2.1)), (7, (0, e.2.2))] []) (l5 l6 l7 l8 : Int) (y : (Int × Int × Int × Int) ⊕ (Int × Int × Int)) (hf : M_arcs_L42 (d + 1) l0 l3 h l5 l6 l7 l8 = some y) (hk : z_sum (fun q : Int × Int × Int × Int => ZV g x 10 h 42 [(0, (2, l0)), (3, (0, l3)), (5, (0, q.1)), (6, (0, q.2.1)), (7, (0, q.2.2.1)), (8, (0, q.2.2.2))] []) E y) : ZV g x 10 h 42 [(0, (2, l0)), (3, (0, l3)), (5, (0, l5)), (6, (0, l6)), (7, (0, l7)), (8, (0, l8))] [] := by
  unfold M_arcs_L42 at hf
  refine z_iload X dX12_arcs_42 5 rfl ?_
  refine z_aload_n X dX12_arcs_44 0 rfl ?_
  obtain ⟨g2, hf⟩ := gif hf
  refine y_get X fl_RX12_450 dX12_arcs_45 g2 ?_
  refine z_icmp_ge X dX12_arcs_48 rfl (fun hc48 => ?_) (fun hc48 => ?_)
  · have hf := ift hc48 hf
    cases hf
    exact z_weak [1, 2, 3, 4] rfl (hx0 _ hk)
  · have hf := iff' hc48 hf
    refine z_aload_n X dX12_arcs_51 0 rfl ?_
    refine z_iload X dX12_arcs_52 5 rfl ?_
    obtain ⟨r54, hr54, hf⟩ := obE hf
    refine y_V1 X cv_RX12_487 dX12_arcs_54 g2 (c_M_isArc d (Nat.zero_le _) l0 l8 h r54 hr54) (as := [(0, l8)]) rfl rfl (Nat.le_of_ble_eq_true rfl) z00 ?_
    refine z_if_ne X dX12_arcs_57 rfl (fun hc57 => ?_) (fun hc57 => ?_)
    · have hf := iff' hc57 hf
      refine z_iinc X dX12_arcs_63 2 rfl (by decide) (ls' := [(5, (0, w32 (l5 + 1))), (0, (2, l0)), (3, (0, l3)), (6, (0, l6)), (7, (0, l7)), (8, (0, l8))]) rfl ?_
      refine z_iload X dX12_arcs_66 4 rfl ?_
      refine z_aload_n X dX12_arcs_68 1 rfl ?_
      refine z_iload X dX12_arcs_69 5 rfl ?_
      obtain ⟨r71, hr71, hf⟩ := obE hf
      refine y_V1 X cv_RX12_481 dX12_arcs_71 g2 (c_M_highOf d (Nat.le_trans (by decide) hd) l0 l8 h r71 hr71) (as := [(0, l8)]) rfl rfl (Nat.le_of_ble_eq_true rfl) z00 ?_
      refine z_aload_n X dX12_arcs_74 1 rfl ?_
      refine z_iload X dX12_arcs_75 5 rfl ?_
      obtain ⟨r77, hr77, hf⟩ := obE hf
      refine y_V1 X cv_RX12_478 dX12_arcs_77 g2 (c_M_lowOf d (Nat.le_trans (by decide) hd) l0 l8 h r77 hr77) (as := [(0, l8)]) rfl rfl (Nat.le_of_ble_eq_true rfl) z00 ?_
      refine z_isub X dX12_arcs_80 ?_
      refine y_max X cm_RX12_327 dX12_arcs_81 (Nat.le_of_ble_eq_true rfl) ?_
      refine z_istore X dX12_arcs_84 (by decide) (ls' := [(7, (0, max l7 (w32 (r71 - r77)))), (5, (0, w32 (l5 + 1))), (0, (2, l0)), (3, (0, l3)), (6, (0, l6)), (8, (0, l8))]) rfl ?_
      refine z_iconst X dX12_arcs_86 kc_0 ?_
      refine z_istore X dX12_arcs_87 (by decide) (ls' := [(9, (0, 0)), (7, (0, max l7 (w32 (r71 - r77)))), (5, (0, w32 (l5 + 1))), (0, (2, l0)), (3, (0, l3)), (6, (0, l6)), (8, (0, l8))]) rfl ?_
      obtain ⟨q89, hq89, hf⟩ := obE hf
      have hx89_0 : ∀ e132 : Int, (e132 : Int) = q89 → ZV g x 10 h 132 [(0, (2, l0)), (3, (0, l3)), (5, (0, w32 (l5 + 1))), (6, (0, e132)), (7, (0, max l7 (w32 (r71 - r77)))), (8, (0, l8))] [] := by
        intro e132 hq
        subst hq
        exact (z_M_arcs_j132 X hd l0 l3 (w32 (l5 + 1)) e132 (max l7 (w32 (r71 - r77))) l8 h _ hf E hx0 hk)
      exact z_weak [3, 4, 2, 5, 1, 6, 0] rfl (z_loop (Z := (fun q : Int × Int => ZV g x 10 h 89 [(0, (2, l0)), (3, (0, l3)), (5, (0, w32 (l5 + 1))), (6, (0, q.1)), (7, (0, max l7 (w32 (r71 - r77)))), (8, (0, l8)), (9, (0, q.2))] [])) (E := fun q => q = q89) (fun q y hb hk => z_M_arcs_L89 X hd l0 l3 (w32 (l5 + 1)) (max l7 (w32 (r71 - r77))) l8 h (fun q => q = q89) hx89_0 q.1 q.2 y hb hk) LN (l6, 0) q89 hq89 rfl)
    · have hf := ift hc57 hf
      refine z_goto X dX12_arcs_60 rfl ?_
      exact (z_M_arcs_j132 X hd l0 l3 l5 l6 l7 l8 h _ hf E hx0 hk)
set_option maxHeartbeats 4000000 in
set_option maxRecDepth 100000 in
theorem c_M_arcs {l : Launch} {g : GP} (d : Nat) (hd : 4 ≤ d) (l0 l1 l3 : Int) (h : Hp) (y : Int × Hp) (hf : M_arcs d l0 l1 l3 h = some y) : zM l yX12_arcs cX12_arcs 10 (some .int) d 0 0 g 157 h [(2, l0), (1, l1), (0, l3)] 157 y.2 (some (0, y.1)) := by
  obtain ⟨d, rfl⟩ : ∃ k, d = k + 1 := ⟨d - 1, by omega⟩
  replace hd : 3 ≤ d := Nat.le_of_succ_le_succ hd
  refine z_start (by decide) (Nat.le_of_ble_eq_true rfl) (fun x X hK _ _ _ hl => ?_)
  show ZV g x 10 h 0 [(0, (2, l0)), (1, (1, l1)), (3, (0, l3))] []
  unfold M_arcs at hf
  refine z_aload_n X dX12_arcs_0 0 rfl ?_
  refine z_lload_n X dX12_arcs_1 1 rfl ?_
  obtain ⟨g1, hf⟩ := gif hf
  obtain ⟨r2, hr2, hf⟩ := obE hf
  refine y_V1 X cv_RX12_474 dX12_arcs_2 g1 (c_M_laysWay d (Nat.le_trans (by decide) hd) l0 l1 h r2 hr2) (as := [(1, l1)]) rfl rfl (Nat.le_of_ble_eq_true rfl) z00 ?_
  refine z_istore X dX12_arcs_5 (by decide) (ls' := [(4, (0, r2.1)), (0, (2, l0)), (1, (1, l1)), (3, (0, l3))]) rfl ?_
  refine z_iload X dX12_arcs_7 0 rfl ?_
  refine z_if_eq X dX12_arcs_9 rfl (fun hc9 => ?_) (fun hc9 => ?_)
  · have hf := ift hc9 hf
    refine z_iload_n X dX12_arcs_15 3 rfl ?_
    refine z_i2l X dX12_arcs_16 ?_
    refine z_lconst0 X dX12_arcs_17 ?_
    refine z_ldc2 X kj_RX12_371 kl_2 dX12_arcs_18 ?_
    obtain ⟨r21, hr21, hf⟩ := obE hf
    refine y_S1 X cs_RX12_14 dX12_arcs_21 (c_M_in d (Nat.zero_le _) l3 0 2 r2.2 r21 hr21) (as := [(1, l3), (1, 0), (1, 2)]) rfl rfl (Nat.le_of_ble_eq_true rfl) z00 ?_
    refine z_if_ne X dX12_arcs_24 rfl (fun hc24 => ?_) (fun hc24 => ?_)
    · have hf := iff' hc24 hf
      refine z_iconst X dX12_arcs_30 kc_0 ?_
      refine z_istore X dX12_arcs_31 (by decide) (ls' := [(5, (0, 0)), (4, (0, r2.1)), (0, (2, l0)), (1, (1, l1)), (3, (0, l3))]) rfl ?_
      refine z_iconst X dX12_arcs_33 kc_0 ?_
      refine z_istore X dX12_arcs_34 (by decide) (ls' := [(6, (0, 0)), (5, (0, 0)), (4, (0, r2.1)), (0, (2, l0)), (1, (1, l1)), (3, (0, l3))]) rfl ?_
      refine z_iconst X dX12_arcs_36 kc_0 ?_
      refine z_istore X dX12_arcs_37 (by decide) (ls' := [(7, (0, 0)), (6, (0, 0)), (5, (0, 0)), (4, (0, r2.1)), (0, (2, l0)), (1, (1, l1)), (3, (0, l3))]) rfl ?_
      refine z_iconst X dX12_arcs_39 kc_0 ?_
      refine z_istore X dX12_arcs_40 (by decide) (ls' := [(8, (0, 0)), (7, (0, 0)), (6, (0, 0)), (5, (0, 0)), (4, (0, r2.1)), (0, (2, l0)), (1, (1, l1)), (3, (0, l3))]) rfl ?_
      obtain ⟨q42, hq42, hf⟩ := obE hf
      have hx42_0 : ∀ e138 : Int × Int × Int, (e138 : Int × Int × Int) = q42 → ZV g x 10 r2.2 138 [(3, (0, l3)), (5, (0, e138.1)), (6, (0, e138.2.1)), (7, (0, e138.2.2))] [] := by
        intro e138 hq
        subst hq
        refine z_iload_n X dX12_arcs_138 0 rfl ?_
        refine z_if_ne X dX12_arcs_139 rfl (fun hc139 => ?_) (fun hc139 => ?_)
        · rw [if_neg hc139] at hf
          refine z_iload_n X dX12_arcs_147 0 rfl ?_
          refine z_iconst X dX12_arcs_148 kc_1 ?_
          refine z_icmp_ne X dX12_arcs_149 rfl (fun hc149 => ?_) (fun hc149 => ?_)
          · rw [if_neg hc149] at hf
            refine z_iload X dX12_arcs_157 3 rfl ?_
            cases hf
            exact z_iret X hK dX12_arcs_159
          · rw [if_pos hc149] at hf
            refine z_iload X dX12_arcs_152 2 rfl ?_
            refine z_goto X dX12_arcs_154 rfl ?_
            cases hf
            exact z_iret X hK dX12_arcs_159
        · rw [if_pos hc139] at hf
          refine z_iload X dX12_arcs_142 1 rfl ?_
          refine z_goto X dX12_arcs_144 rfl ?_
          cases hf
          exact z_iret X hK dX12_arcs_159
      exact z_weak [5, 7, 3, 2, 1, 0] rfl (z_loop (Z := (fun q : Int × Int × Int × Int => ZV g x 10 r2.2 42 [(0, (2, l0)), (3, (0, l3)), (5, (0, q.1)), (6, (0, q.2.1)), (7, (0, q.2.2.1)), (8, (0, q.2.2.2))] [])) (E := fun q => q = q42) (fun q y hb hk => z_M_arcs_L42 X hd l0 l3 r2.2 (fun q => q = q42) hx42_0 q.1 q.2.1 q.2.2.1 q.2.2.2 y hb hk) LN (0, 0, 0, 0) q42 hq42 rfl)
    · have hf := ift hc24 hf
      refine z_bipush X dX12_arcs_27 kb_m2 kc_m2 ?_
      cases hf
      exact z_iret X hK dX12_arcs_29
  · have hf := iff' hc9 hf
    refine z_iload X dX12_arcs_12 0 rfl ?_
    cases hf
    exact z_iret X hK dX12_arcs_14
set_option maxHeartbeats 4000000 in
set_option maxRecDepth 100000 in
theorem c_M_put {l : Launch} {g : GP} (d : Nat) (hd : 0 ≤ d) (l0 l1 l2 : Int) (h : Hp) (y : Int) (hf : M_put l0 l1 l2 h = some y) : zM l yX12_put cX12_put 3 (some .int) d 0 0 g 157 h [(2, l0), (0, l1), (0, l2)] 157 h (some (0, y)) := by
  refine z_start (by decide) (Nat.le_of_ble_eq_true rfl) (fun x X hK _ _ _ hl => ?_)
  show ZV g x 3 h 0 [(0, (2, l0)), (1, (0, l1)), (2, (0, l2))] []
  unfold M_put at hf
  refine z_aload_n X dX12_put_0 0 rfl ?_
  obtain ⟨g1, hf⟩ := gif hf
  refine y_get X fl_RX12_226 dX12_put_1 g1 ?_
  refine z_bipush X dX12_put_4 kb_12 kc_12 ?_
  refine z_iload_n X dX12_put_6 1 rfl ?_
  refine z_imul X dX12_put_7 ?_
  refine z_iload_n X dX12_put_8 2 rfl ?_
  refine z_iadd X dX12_put_9 ?_
  obtain ⟨g2, hf⟩ := gif hf
  refine y_iald X dX12_put_10 g2 ?_
  cases hf
  exact z_iret X hK dX12_put_11
def M_deepAbove_G_IH (l : Launch) (g : GP) (d : Nat) : Prop := (∀ (l0 l1 l2 : Int) (h : Hp) (y : Int), M_deepAbove_G d 0 [l0, l1, l2] h = some y → zM l yX12_deepAbove cX12_deepAbove 5 (some .int) d 0 0 g 157 h [(2, l0), (0, l1), (0, l2)] 157 h (some (0, y))) ∧ (∀ (l0 l1 l2 : Int) (h : Hp) (y : Int), M_deepAbove_G d 1 [l0, l1, l2] h = some y → zM l yX12_deepBelow cX12_deepBelow 5 (some .int) d 0 0 g 157 h [(2, l0), (0, l1), (0, l2)] 157 h (some (0, y)))
set_option maxHeartbeats 4000000 in
set_option maxRecDepth 100000 in
theorem cb_M_deepAbove {l : Launch} {g : GP} {d : Nat} (IH : M_deepAbove_G_IH l g d) (hd : 0 ≤ d) (l0 l1 l2 : Int) (h : Hp) (y : Int) (hf : M_deepAbove_b (M_deepAbove_G d) d l0 l1 l2 h = some y) : zM l yX12_deepAbove cX12_deepAbove 5 (some .int) (d + 1) 0 0 g 157 h [(2, l0), (0, l1), (0, l2)] 157 h (some (0, y)) := by
  refine z_start (by decide) (Nat.le_of_ble_eq_true rfl) (fun x X hK _ _ _ hl => ?_)
  have IH : M_deepAbove_G_IH (xl x) g d := hl ▸ IH
  show ZV g x 5 h 0 [(0, (2, l0)), (1, (0, l1)), (2, (0, l2))] []
  unfold M_deepAbove_b at hf
  refine z_aload_n X dX12_deepAbove_0 0 rfl ?_
  refine z_iload_n X dX12_deepAbove_1 1 rfl ?_
  refine z_iload_n X dX12_deepAbove_2 2 rfl ?_
  obtain ⟨g1, hf⟩ := gif hf
  obtain ⟨r3, hr3, hf⟩ := obE hf
  refine y_V1 X cv_RX12_493 dX12_deepAbove_3 g1 (c_M_put d (Nat.zero_le _) l0 l1 l2 h r3 hr3) (as := [(0, l1), (0, l2)]) rfl rfl (Nat.le_of_ble_eq_true rfl) z00 ?_
  refine z_istore_n X dX12_deepAbove_6 (by decide) (ls' := [(3, (0, r3)), (0, (2, l0)), (1, (0, l1)), (2, (0, l2))]) rfl ?_
  refine z_aload_n X dX12_deepAbove_7 1 rfl ?_
  refine y_get X fl_RX12_98 dX12_deepAbove_8 g1 ?_
  refine z_aload_n X dX12_deepAbove_11 1 rfl ?_
  refine y_get X fl_RX12_7 dX12_deepAbove_12 g1 ?_
  refine z_aload_n X dX12_deepAbove_15 1 rfl ?_
  refine y_get X fl_RX12_214 dX12_deepAbove_16 g1 ?_
  refine z_iload_n X dX12_deepAbove_19 2 rfl ?_
  obtain ⟨g2, hf⟩ := gif hf
  refine y_iald X dX12_deepAbove_20 g2 ?_
  obtain ⟨g3, hf⟩ := gif hf
  refine y_iald X dX12_deepAbove_21 g3 ?_
  refine z_iload_n X dX12_deepAbove_22 3 rfl ?_
  refine z_iadd X dX12_deepAbove_23 ?_
  obtain ⟨g4, hf⟩ := gif hf
  refine y_iald X dX12_deepAbove_24 g4 ?_
  refine z_istore X dX12_deepAbove_25 (by decide) (ls' := [(4, (0, h (h l0 5) (w32 ((h (h l0 4) (h (h l0 49) l1)) + l2)))), (3, (0, r3)), (0, (2, l0)), (1, (0, l1)), (2, (0, l2))]) rfl ?_
  refine z_iload X dX12_deepAbove_27 0 rfl ?_
  refine z_if_ne X dX12_deepAbove_29 rfl (fun hc29 => ?_) (fun hc29 => ?_)
  · have hf := iff' hc29 hf
    refine z_iload X dX12_deepAbove_53 0 rfl ?_
    refine z_iconst X dX12_deepAbove_55 kc_4 ?_
    refine z_icmp_ne X dX12_deepAbove_56 rfl (fun hc56 => ?_) (fun hc56 => ?_)
    · have hf := iff' hc56 hf
      refine z_iload X dX12_deepAbove_66 0 rfl ?_
      refine z_iconst X dX12_deepAbove_68 kc_3 ?_
      refine z_icmp_ne X dX12_deepAbove_69 rfl (fun hc69 => ?_) (fun hc69 => ?_)
      · have hf := iff' hc69 hf
        refine z_iconst X dX12_deepAbove_91 kc_0 ?_
        cases hf
        exact z_iret X hK dX12_deepAbove_92
      · have hf := ift hc69 hf
        refine z_aload_n X dX12_deepAbove_72 2 rfl ?_
        refine z_aload_n X dX12_deepAbove_73 2 rfl ?_
        refine y_get X fl_RX12_217 dX12_deepAbove_74 g1 ?_
        refine z_iload_n X dX12_deepAbove_77 3 rfl ?_
        obtain ⟨g5, hf⟩ := gif hf
        refine y_iald X dX12_deepAbove_78 g5 ?_
        refine z_aload_n X dX12_deepAbove_79 2 rfl ?_
        refine y_get X fl_RX12_220 dX12_deepAbove_80 g1 ?_
        refine z_iload_n X dX12_deepAbove_83 3 rfl ?_
        obtain ⟨g6, hf⟩ := gif hf
        refine y_iald X dX12_deepAbove_84 g6 ?_
        obtain ⟨r85, hr85, hf⟩ := obE hf
        refine y_V1 X cv_RX12_499 dX12_deepAbove_85 g1 (IH.2 l0 (h (h l0 50) l1) (h (h l0 51) l1) h r85 hr85) (as := [(0, h (h l0 50) l1), (0, h (h l0 51) l1)]) rfl rfl (Nat.le_of_ble_eq_true rfl) z00 ?_
        refine z_goto X dX12_deepAbove_88 rfl ?_
        cases hf
        exact z_iret X hK dX12_deepAbove_92
    · have hf := ift hc56 hf
      refine z_aload_n X dX12_deepAbove_59 2 rfl ?_
      refine z_iload_n X dX12_deepAbove_60 1 rfl ?_
      refine z_iconst X dX12_deepAbove_61 kc_0 ?_
      obtain ⟨r62, hr62, hf⟩ := obE hf
      refine y_V1 X cv_RX12_496 dX12_deepAbove_62 g1 (IH.1 l0 r3 0 h r62 hr62) (as := [(0, r3), (0, 0)]) rfl rfl (Nat.le_of_ble_eq_true rfl) z00 ?_
      cases hf
      exact z_iret X hK dX12_deepAbove_65
  · have hf := ift hc29 hf
    refine z_iload_n X dX12_deepAbove_32 1 rfl ?_
    refine z_iconst X dX12_deepAbove_33 kc_m1 ?_
    refine z_icmp_eq X dX12_deepAbove_34 rfl (fun hc34 => ?_) (fun hc34 => ?_)
    · have hf := ift hc34 hf
      refine z_aload_n X dX12_deepAbove_46 2 rfl ?_
      refine z_iload_n X dX12_deepAbove_47 3 rfl ?_
      refine z_iload_n X dX12_deepAbove_48 4 rfl ?_
      obtain ⟨r49, hr49, hf⟩ := obE hf
      refine y_V1 X cv_RX12_499 dX12_deepAbove_49 g1 (IH.2 l0 l1 l2 h r49 hr49) (as := [(0, l1), (0, l2)]) rfl rfl (Nat.le_of_ble_eq_true rfl) z00 ?_
      cases hf
      exact z_iret X hK dX12_deepAbove_52
    · have hf := iff' hc34 hf
      refine z_aload_n X dX12_deepAbove_37 2 rfl ?_
      refine z_iload_n X dX12_deepAbove_38 1 rfl ?_
      refine z_iconst X dX12_deepAbove_39 kc_0 ?_
      obtain ⟨r40, hr40, hf⟩ := obE hf
      refine y_V1 X cv_RX12_496 dX12_deepAbove_40 g1 (IH.1 l0 r3 0 h r40 hr40) (as := [(0, r3), (0, 0)]) rfl rfl (Nat.le_of_ble_eq_true rfl) z00 ?_
      refine z_goto X dX12_deepAbove_43 rfl ?_
      cases hf
      exact z_iret X hK dX12_deepAbove_52
set_option maxHeartbeats 4000000 in
set_option maxRecDepth 100000 in
theorem z_M_deepBelow_j79 {g : GP} {x : CX} {d : Nat} (X : zX g x RX12 cX12_deepBelow 5 (d + 1)) (hd : 0 ≤ d) (IH : M_deepAbove_G_IH (xl x) g d) (l4 : Int) (h : Hp) (y : Int) (hf : M_deepBelow_j79 (M_deepAbove_G d) d l4 h = some y) (hK : zE g x (some .int) 0 0 157 h (some (0, y))) : ZV g x 5 h 79 [(4, (0, l4))] [] := by
  unfold M_deepBelow_j79 at hf
  refine z_iload X dX12_deepBelow_79 0 rfl ?_
  refine z_iconst X dX12_deepBelow_81 kc_1 ?_
  refine z_iadd X dX12_deepBelow_82 ?_
  cases hf
  exact z_iret X hK dX12_deepBelow_83
set_option maxHeartbeats 4000000 in
set_option maxRecDepth 100000 in
theorem cb_M_deepBelow {l : Launch} {g : GP} {d : Nat} (IH : M_deepAbove_G_IH l g d) (hd : 0 ≤ d) (l0 l1 l2 : Int) (h : Hp) (y : Int) (hf : M_deepBelow_b (M_deepAbove_G d) d l0 l1 l2 h = some y) : zM l yX12_deepBelow cX12_deepBelow 5 (some .int) (d + 1) 0 0 g 157 h [(2, l0), (0, l1), (0, l2)] 157 h (some (0, y)) := by
  refine z_start (by decide) (Nat.le_of_ble_eq_true rfl) (fun x X hK _ _ _ hl => ?_)
  have IH : M_deepAbove_G_IH (xl x) g d := hl ▸ IH
  show ZV g x 5 h 0 [(0, (2, l0)), (1, (0, l1)), (2, (0, l2))] []
  unfold M_deepBelow_b at hf
  refine z_aload_n X dX12_deepBelow_0 0 rfl ?_
  obtain ⟨g1, hf⟩ := gif hf
  refine y_get X fl_RX12_214 dX12_deepBelow_1 g1 ?_
  refine z_iload_n X dX12_deepBelow_4 1 rfl ?_
  obtain ⟨g2, hf⟩ := gif hf
  refine y_iald X dX12_deepBelow_5 g2 ?_
  refine z_istore_n X dX12_deepBelow_6 (by decide) (ls' := [(3, (0, h (h l0 49) l1)), (0, (2, l0)), (1, (0, l1)), (2, (0, l2))]) rfl ?_
  refine z_aload_n X dX12_deepBelow_7 1 rfl ?_
  refine z_iload_n X dX12_deepBelow_8 2 rfl ?_
  refine z_aload_n X dX12_deepBelow_9 1 rfl ?_
  refine z_iload_n X dX12_deepBelow_10 0 rfl ?_
  refine z_aload_n X dX12_deepBelow_11 1 rfl ?_
  refine y_get X fl_RX12_107 dX12_deepBelow_12 g1 ?_
  refine z_aload_n X dX12_deepBelow_15 1 rfl ?_
  refine y_get X fl_RX12_7 dX12_deepBelow_16 g1 ?_
  refine z_iload_n X dX12_deepBelow_19 0 rfl ?_
  obtain ⟨g3, hf⟩ := gif hf
  refine y_iald X dX12_deepBelow_20 g3 ?_
  refine z_iload_n X dX12_deepBelow_21 3 rfl ?_
  refine z_iadd X dX12_deepBelow_22 ?_
  obtain ⟨g4, hf⟩ := gif hf
  refine y_iald X dX12_deepBelow_23 g4 ?_
  obtain ⟨r24, hr24, hf⟩ := obE hf
  refine y_V1 X cv_RX12_368 dX12_deepBelow_24 g1 (c_M_own d (Nat.zero_le _) l0 (h (h l0 49) l1) (h (h l0 8) (w32 ((h (h l0 4) (h (h l0 49) l1)) + l2))) h r24 hr24) (as := [(0, h (h l0 49) l1), (0, h (h l0 8) (w32 ((h (h l0 4) (h (h l0 49) l1)) + l2)))]) rfl rfl (Nat.le_of_ble_eq_true rfl) z00 ?_
  obtain ⟨r27, hr27, hf⟩ := obE hf
  refine y_V1 X cv_RX12_496 dX12_deepBelow_27 g1 (IH.1 l0 l1 r24 h r27 hr27) (as := [(0, l1), (0, r24)]) rfl rfl (Nat.le_of_ble_eq_true rfl) z00 ?_
  refine z_istore X dX12_deepBelow_30 (by decide) (ls' := [(4, (0, r27)), (3, (0, h (h l0 49) l1)), (0, (2, l0)), (1, (0, l1)), (2, (0, l2))]) rfl ?_
  refine z_aload_n X dX12_deepBelow_32 2 rfl ?_
  refine y_get X fl_RX12_110 dX12_deepBelow_33 g1 ?_
  refine z_aload_n X dX12_deepBelow_36 2 rfl ?_
  refine y_get X fl_RX12_7 dX12_deepBelow_37 g1 ?_
  refine z_iload_n X dX12_deepBelow_40 1 rfl ?_
  refine y_iald X dX12_deepBelow_41 g3 ?_
  refine z_iload_n X dX12_deepBelow_42 4 rfl ?_
  refine z_iadd X dX12_deepBelow_43 ?_
  obtain ⟨g5, hf⟩ := gif hf
  refine y_iald X dX12_deepBelow_44 g5 ?_
  refine z_iconst X dX12_deepBelow_45 kc_m1 ?_
  refine z_icmp_eq X dX12_deepBelow_46 rfl (fun hc46 => ?_) (fun hc46 => ?_)
  · have hf := ift hc46 hf
    exact z_weak [0] rfl (z_M_deepBelow_j79 X hd IH r27 h _ hf hK)
  · have hf := iff' hc46 hf
    refine z_iload X dX12_deepBelow_49 0 rfl ?_
    refine z_aload_n X dX12_deepBelow_51 2 rfl ?_
    refine z_iload_n X dX12_deepBelow_52 3 rfl ?_
    refine z_aload_n X dX12_deepBelow_53 2 rfl ?_
    refine z_iload_n X dX12_deepBelow_54 1 rfl ?_
    refine z_aload_n X dX12_deepBelow_55 2 rfl ?_
    refine y_get X fl_RX12_110 dX12_deepBelow_56 g1 ?_
    refine z_aload_n X dX12_deepBelow_59 2 rfl ?_
    refine y_get X fl_RX12_7 dX12_deepBelow_60 g1 ?_
    refine z_iload_n X dX12_deepBelow_63 1 rfl ?_
    refine y_iald X dX12_deepBelow_64 g3 ?_
    refine z_iload_n X dX12_deepBelow_65 4 rfl ?_
    refine z_iadd X dX12_deepBelow_66 ?_
    refine y_iald X dX12_deepBelow_67 g5 ?_
    obtain ⟨r68, hr68, hf⟩ := obE hf
    refine y_V1 X cv_RX12_368 dX12_deepBelow_68 g1 (c_M_own d (Nat.zero_le _) l0 (h (h l0 49) l1) (h (h l0 9) (w32 ((h (h l0 4) (h (h l0 49) l1)) + l2))) h r68 hr68) (as := [(0, h (h l0 49) l1), (0, h (h l0 9) (w32 ((h (h l0 4) (h (h l0 49) l1)) + l2)))]) rfl rfl (Nat.le_of_ble_eq_true rfl) z00 ?_
    obtain ⟨r71, hr71, hf⟩ := obE hf
    refine y_V1 X cv_RX12_496 dX12_deepBelow_71 g1 (IH.1 l0 l1 r68 h r71 hr71) (as := [(0, l1), (0, r68)]) rfl rfl (Nat.le_of_ble_eq_true rfl) z00 ?_
    refine y_max X cm_RX12_327 dX12_deepBelow_74 (Nat.le_of_ble_eq_true rfl) ?_
    refine z_istore X dX12_deepBelow_77 (by decide) (ls' := [(4, (0, max r27 r71)), (3, (0, h (h l0 49) l1)), (0, (2, l0)), (1, (0, l1)), (2, (0, l2))]) rfl ?_
    exact z_weak [0] rfl (z_M_deepBelow_j79 X hd IH (max r27 r71) h _ hf hK)
set_option maxHeartbeats 4000000 in
set_option maxRecDepth 100000 in
theorem M_deepAbove_G_ok (l : Launch) (g : GP) : ∀ d, M_deepAbove_G_IH l g d
  | 0 => ⟨fun _ _ _ h y hf => (nomatch (show none = some y from hf)), fun _ _ _ h y hf => (nomatch (show none = some y from hf))⟩
  | d + 1 => by
    have IH := M_deepAbove_G_ok l g d
    refine ⟨fun l0 l1 l2 h y hf => ?_, fun l0 l1 l2 h y hf => ?_⟩
    · obtain ⟨hd, hf⟩ := gif (show (if 0 ≤ d then M_deepAbove_b (M_deepAbove_G d) d l0 l1 l2 h else none) = some y from hf)
      exact cb_M_deepAbove IH hd l0 l1 l2 h y hf
    · obtain ⟨hd, hf⟩ := gif (show (if 0 ≤ d then M_deepBelow_b (M_deepAbove_G d) d l0 l1 l2 h else none) = some y from hf)
      exact cb_M_deepBelow IH hd l0 l1 l2 h y hf
