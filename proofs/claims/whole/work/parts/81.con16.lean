set_option maxHeartbeats 4000000 in
set_option maxRecDepth 100000 in
theorem z_M_waysBelow_j91 {g : GP} {x : CX} {d : Nat} (X : zX g x RX12 cX12_waysBelow 9 (d + 1)) (hd : 2 ≤ d) (IH : M_waysOf_G_IH (xl x) g d) (h : Hp) (y : Int × Hp) (hf : M_waysBelow_j91 (M_waysOf_G d) d h = some y) (hK : zE g x (some .long) 0 0 157 y.2 (some (1, y.1))) : ZV g x 9 h 91 [] [] := by
  unfold M_waysBelow_j91 at hf
  refine z_lconst0 X dX12_waysBelow_91 ?_
  cases hf
  exact z_lret X hK dX12_waysBelow_92
set_option maxHeartbeats 4000000 in
set_option maxRecDepth 100000 in
theorem z_M_waysBelow_L135 {g : GP} {x : CX} {d : Nat} (X : zX g x RX12 cX12_waysBelow 9 (d + 1)) (hd : 2 ≤ d) (IH : M_waysOf_G_IH (xl x) g d) (l0 l1 l2 l3 l4 l5 : Int)  (E : Int × Hp → Prop) (hx0 : ∀ e : Int × Hp, E (e) → ZV g x 9 e.2 167 [(6, (1, e.1))] []) (l6 l8 : Int) (h : Hp) (y : (Int × Int × Hp) ⊕ (Int × Hp)) (hf : M_waysBelow_L135 (M_waysOf_G d) d l0 l1 l2 l3 l4 l5 l6 l8 h = some y) (hk : z_sum (fun q : Int × Int × Hp => ZV g x 9 q.2.2 135 [(0, (2, l0)), (1, (0, l1)), (2, (0, l2)), (3, (0, l3)), (4, (0, l4)), (5, (0, l5)), (6, (1, q.1)), (8, (0, q.2.1))] []) E y) : ZV g x 9 h 135 [(0, (2, l0)), (1, (0, l1)), (2, (0, l2)), (3, (0, l3)), (4, (0, l4)), (5, (0, l5)), (6, (1, l6)), (8, (0, l8))] [] := by
  unfold M_waysBelow_L135 at hf
  refine z_iload X dX12_waysBelow_135 7 rfl ?_
  refine z_iload_n X dX12_waysBelow_137 3 rfl ?_
  refine z_icmp_gt X dX12_waysBelow_138 rfl (fun hc138 => ?_) (fun hc138 => ?_)
  · have hf := ift hc138 hf
    cases hf
    exact z_weak [6] rfl (hx0 _ hk)
  · have hf := iff' hc138 hf
    refine z_lload X dX12_waysBelow_141 6 rfl ?_
    refine z_aload_n X dX12_waysBelow_143 0 rfl ?_
    refine z_iload_n X dX12_waysBelow_144 1 rfl ?_
    refine z_iload_n X dX12_waysBelow_145 2 rfl ?_
    refine z_iload X dX12_waysBelow_146 7 rfl ?_
    refine z_iload_n X dX12_waysBelow_148 3 rfl ?_
    refine z_iload X dX12_waysBelow_149 4 rfl ?_
    refine z_iload X dX12_waysBelow_151 5 rfl ?_
    obtain ⟨g6, hf⟩ := gif hf
    obtain ⟨r153, hr153, hf⟩ := obE hf
    refine y_V1 X cv_RX12_314 dX12_waysBelow_153 g6 (IH.2.2.2.2.2.2.2 l0 l1 l2 l8 l3 l4 l5 h r153 hr153) (as := [(0, l1), (0, l2), (0, l8), (0, l3), (0, l4), (0, l5)]) rfl rfl (Nat.le_of_ble_eq_true rfl) z00 ?_
    obtain ⟨r156, hr156, hf⟩ := obE hf
    refine y_S1 X cs_RX12_304 dX12_waysBelow_156 (c_M_sum d (Nat.le_trans (by decide) hd) l6 r153.1 r153.2 r156 hr156) (as := [(1, l6), (1, r153.1)]) rfl rfl (Nat.le_of_ble_eq_true rfl) z00 ?_
    refine z_lstore X dX12_waysBelow_159 (by decide) (ls' := [(6, (1, r156)), (0, (2, l0)), (1, (0, l1)), (2, (0, l2)), (3, (0, l3)), (4, (0, l4)), (5, (0, l5)), (8, (0, l8))]) rfl ?_
    refine z_iinc X dX12_waysBelow_161 7 rfl (by decide) (ls' := [(8, (0, w32 (l8 + 1))), (6, (1, r156)), (0, (2, l0)), (1, (0, l1)), (2, (0, l2)), (3, (0, l3)), (4, (0, l4)), (5, (0, l5))]) rfl ?_
    refine z_goto X dX12_waysBelow_164 rfl ?_
    cases hf
    exact z_weak [2, 3, 4, 5, 6, 7, 1, 0] rfl hk
set_option maxHeartbeats 4000000 in
set_option maxRecDepth 100000 in
theorem cb_M_waysBelow {l : Launch} {g : GP} {d : Nat} (IH : M_waysOf_G_IH l g d) (hd : 2 ≤ d) (l0 l1 l2 l3 l4 l5 : Int) (h : Hp) (y : Int × Hp) (hf : M_waysBelow_b (M_waysOf_G d) d l0 l1 l2 l3 l4 l5 h = some y) : zM l yX12_waysBelow cX12_waysBelow 9 (some .long) (d + 1) 0 0 g 157 h [(2, l0), (0, l1), (0, l2), (0, l3), (0, l4), (0, l5)] 157 y.2 (some (1, y.1)) := by
  refine z_start (by decide) (Nat.le_of_ble_eq_true rfl) (fun x X hK _ _ _ hl => ?_)
  have IH : M_waysOf_G_IH (xl x) g d := hl ▸ IH
  show ZV g x 9 h 0 [(0, (2, l0)), (1, (0, l1)), (2, (0, l2)), (3, (0, l3)), (4, (0, l4)), (5, (0, l5))] []
  unfold M_waysBelow_b at hf
  refine z_aload_n X dX12_waysBelow_0 0 rfl ?_
  obtain ⟨g1, hf⟩ := gif hf
  refine y_get X fl_RX12_98 dX12_waysBelow_1 g1 ?_
  refine z_iload_n X dX12_waysBelow_4 1 rfl ?_
  obtain ⟨g2, hf⟩ := gif hf
  refine y_iald X dX12_waysBelow_5 g2 ?_
  by_cases hc6_0 : h (h l0 5) l1 = 1
  · have hf := ift hc6_0 hf
    refine z_tsIn X dX12_waysBelow_6 (by omega) (by omega) (by rw [hc6_0]; rfl) rfl ?_
    refine z_iload_n X dX12_waysBelow_36 3 rfl ?_
    refine z_iload_n X dX12_waysBelow_37 2 rfl ?_
    refine z_iconst X dX12_waysBelow_38 kc_1 ?_
    refine z_iadd X dX12_waysBelow_39 ?_
    refine z_icmp_ne X dX12_waysBelow_40 rfl (fun hc40 => ?_) (fun hc40 => ?_)
    · have hf := iff' hc40 hf
      exact z_weak [] rfl (z_M_waysBelow_j62 X hd IH  h _ hf hK)
    · have hf := ift hc40 hf
      refine z_aload_n X dX12_waysBelow_43 0 rfl ?_
      refine y_get X fl_RX12_182 dX12_waysBelow_44 g1 ?_
      refine z_iload_n X dX12_waysBelow_47 2 rfl ?_
      obtain ⟨g3, hf⟩ := gif hf
      refine y_iald X dX12_waysBelow_48 g3 ?_
      refine z_aload_n X dX12_waysBelow_49 0 rfl ?_
      refine y_get X fl_RX12_101 dX12_waysBelow_50 g1 ?_
      refine z_iload_n X dX12_waysBelow_53 1 rfl ?_
      obtain ⟨g4, hf⟩ := gif hf
      refine y_iald X dX12_waysBelow_54 g4 ?_
      refine z_icmp_ne X dX12_waysBelow_55 rfl (fun hc55 => ?_) (fun hc55 => ?_)
      · have hf := iff' hc55 hf
        exact z_weak [] rfl (z_M_waysBelow_j62 X hd IH  h _ hf hK)
      · have hf := ift hc55 hf
        refine z_lconst1 X dX12_waysBelow_58 ?_
        refine z_goto X dX12_waysBelow_59 rfl ?_
        cases hf
        exact z_lret X hK dX12_waysBelow_63
  · have hf := iff' hc6_0 hf
    by_cases hc6_1 : h (h l0 5) l1 = 2
    · have hf := ift hc6_1 hf
      refine z_tsIn X dX12_waysBelow_6 (by omega) (by omega) (by rw [hc6_1]; rfl) rfl ?_
      refine z_iload_n X dX12_waysBelow_64 2 rfl ?_
      refine z_iload_n X dX12_waysBelow_65 3 rfl ?_
      refine z_icmp_ne X dX12_waysBelow_66 rfl (fun hc66 => ?_) (fun hc66 => ?_)
      · rw [if_neg hc66] at hf
        refine z_lconst0 X dX12_waysBelow_73 ?_
        cases hf
        exact z_lret X hK dX12_waysBelow_74
      · rw [if_pos hc66] at hf
        refine z_lconst1 X dX12_waysBelow_69 ?_
        refine z_goto X dX12_waysBelow_70 rfl ?_
        cases hf
        exact z_lret X hK dX12_waysBelow_74
    · have hf := iff' hc6_1 hf
      by_cases hc6_2 : h (h l0 5) l1 = 3
      · have hf := ift hc6_2 hf
        refine z_tsIn X dX12_waysBelow_6 (by omega) (by omega) (by rw [hc6_2]; rfl) rfl ?_
        refine z_iload X dX12_waysBelow_75 4 rfl ?_
        refine z_iload_n X dX12_waysBelow_77 2 rfl ?_
        refine z_icmp_ne X dX12_waysBelow_78 rfl (fun hc78 => ?_) (fun hc78 => ?_)
        · have hf := iff' hc78 hf
          exact z_weak [] rfl (z_M_waysBelow_j91 X hd IH  h _ hf hK)
        · have hf := ift hc78 hf
          refine z_iload X dX12_waysBelow_81 5 rfl ?_
          refine z_iload_n X dX12_waysBelow_83 3 rfl ?_
          refine z_icmp_ne X dX12_waysBelow_84 rfl (fun hc84 => ?_) (fun hc84 => ?_)
          · have hf := iff' hc84 hf
            exact z_weak [] rfl (z_M_waysBelow_j91 X hd IH  h _ hf hK)
          · have hf := ift hc84 hf
            refine z_lconst1 X dX12_waysBelow_87 ?_
            refine z_goto X dX12_waysBelow_88 rfl ?_
            cases hf
            exact z_lret X hK dX12_waysBelow_92
      · have hf := iff' hc6_2 hf
        by_cases hc6_3 : h (h l0 5) l1 = 4
        · have hf := ift hc6_3 hf
          refine z_tsIn X dX12_waysBelow_6 (by omega) (by omega) (by rw [hc6_3]; rfl) rfl ?_
          refine z_aload_n X dX12_waysBelow_93 0 rfl ?_
          refine z_iload_n X dX12_waysBelow_94 1 rfl ?_
          refine z_iload_n X dX12_waysBelow_95 2 rfl ?_
          refine z_iload_n X dX12_waysBelow_96 3 rfl ?_
          obtain ⟨r97, hr97, hf⟩ := obE hf
          refine y_V1 X cv_RX12_310 dX12_waysBelow_97 g1 (IH.2.2.2.2.1 l0 l1 l2 l3 h r97 hr97) (as := [(0, l1), (0, l2), (0, l3)]) rfl rfl (Nat.le_of_ble_eq_true rfl) z00 ?_
          cases hf
          exact z_lret X hK dX12_waysBelow_100
        · have hf := iff' hc6_3 hf
          refine z_tsOut X dX12_waysBelow_6 (by omega) rfl ?_
          refine z_aload_n X dX12_waysBelow_101 0 rfl ?_
          refine y_get X fl_RX12_110 dX12_waysBelow_102 g1 ?_
          refine z_iload_n X dX12_waysBelow_105 1 rfl ?_
          obtain ⟨g5, hf⟩ := gif hf
          refine y_iald X dX12_waysBelow_106 g5 ?_
          refine z_iconst X dX12_waysBelow_107 kc_m1 ?_
          refine z_icmp_ne X dX12_waysBelow_108 rfl (fun hc108 => ?_) (fun hc108 => ?_)
          · have hf := iff' hc108 hf
            refine z_lconst0 X dX12_waysBelow_129 ?_
            refine z_lstore X dX12_waysBelow_130 (by decide) (ls' := [(6, (1, 0)), (0, (2, l0)), (1, (0, l1)), (2, (0, l2)), (3, (0, l3)), (4, (0, l4)), (5, (0, l5))]) rfl ?_
            refine z_iload_n X dX12_waysBelow_132 3 rfl ?_
            refine z_istore X dX12_waysBelow_133 (by decide) (ls' := [(8, (0, l2)), (6, (1, 0)), (0, (2, l0)), (1, (0, l1)), (2, (0, l2)), (3, (0, l3)), (4, (0, l4)), (5, (0, l5))]) rfl ?_
            obtain ⟨q135, hq135, hf⟩ := obE hf
            have hx135_0 : ∀ e167 : Int × Hp, (e167 : Int × Hp) = q135 → ZV g x 9 e167.2 167 [(6, (1, e167.1))] [] := by
              intro e167 hq
              subst hq
              refine z_lload X dX12_waysBelow_167 0 rfl ?_
              cases hf
              exact z_lret X hK dX12_waysBelow_169
            exact z_weak [2, 3, 4, 5, 6, 7, 1, 0] rfl (z_loop (Z := (fun q : Int × Int × Hp => ZV g x 9 q.2.2 135 [(0, (2, l0)), (1, (0, l1)), (2, (0, l2)), (3, (0, l3)), (4, (0, l4)), (5, (0, l5)), (6, (1, q.1)), (8, (0, q.2.1))] [])) (E := fun q => q = q135) (fun q y hb hk => z_M_waysBelow_L135 X hd IH l0 l1 l2 l3 l4 l5 (fun q => q = q135) hx135_0 q.1 q.2.1 q.2.2 y hb hk) LN (0, l2, h) q135 hq135 rfl)
          · have hf := ift hc108 hf
            refine z_aload_n X dX12_waysBelow_111 0 rfl ?_
            refine z_iconst X dX12_waysBelow_112 kc_1 ?_
            refine z_aload_n X dX12_waysBelow_113 0 rfl ?_
            refine y_get X fl_RX12_107 dX12_waysBelow_114 g1 ?_
            refine z_iload_n X dX12_waysBelow_117 1 rfl ?_
            obtain ⟨g7, hf⟩ := gif hf
            refine y_iald X dX12_waysBelow_118 g7 ?_
            refine z_iload_n X dX12_waysBelow_119 2 rfl ?_
            refine z_iload_n X dX12_waysBelow_120 3 rfl ?_
            refine z_iload X dX12_waysBelow_121 4 rfl ?_
            refine z_iload X dX12_waysBelow_123 5 rfl ?_
            obtain ⟨r125, hr125, hf⟩ := obE hf
            refine y_V1 X cv_RX12_292 dX12_waysBelow_125 g1 (IH.1 l0 1 (h (h l0 8) l1) l2 l3 l4 l5 h r125 hr125) (as := [(0, 1), (0, h (h l0 8) l1), (0, l2), (0, l3), (0, l4), (0, l5)]) rfl rfl (Nat.le_of_ble_eq_true rfl) z00 ?_
            cases hf
            exact z_lret X hK dX12_waysBelow_128
set_option maxHeartbeats 4000000 in
set_option maxRecDepth 100000 in
theorem z_M_waysHosts_j53 {g : GP} {x : CX} {d : Nat} (X : zX g x RX12 cX12_waysHosts 7 (d + 1)) (hd : 2 ≤ d) (IH : M_waysOf_G_IH (xl x) g d) (l0 l1 l2 l3 l4 l6 : Int) (h : Hp) (y : (Int × Int × Hp) ⊕ (Int × Hp)) (hf : M_waysHosts_j53 (M_waysOf_G d) d l0 l1 l2 l3 l4 l6 h = some y) (E : Int × Hp → Prop) (hx0 : ∀ e : Int × Hp, E (e) → ZV g x 7 e.2 59 [(4, (1, e.1))] []) (hk : z_sum (fun q : Int × Int × Hp => ZV g x 7 q.2.2 6 [(0, (2, l0)), (1, (0, l1)), (2, (0, l2)), (3, (0, l3)), (4, (1, q.1)), (6, (0, q.2.1))] []) E y) : ZV g x 7 h 53 [(0, (2, l0)), (1, (0, l1)), (2, (0, l2)), (3, (0, l3)), (4, (1, l4)), (6, (0, l6))] [] := by
  unfold M_waysHosts_j53 at hf
  refine z_iinc X dX12_waysHosts_53 5 rfl (by decide) (ls' := [(6, (0, w32 (l6 + 1))), (0, (2, l0)), (1, (0, l1)), (2, (0, l2)), (3, (0, l3)), (4, (1, l4))]) rfl ?_
  refine z_goto X dX12_waysHosts_56 rfl ?_
  cases hf
  exact z_weak [1, 2, 3, 4, 5, 0] rfl hk
set_option maxHeartbeats 4000000 in
set_option maxRecDepth 100000 in
theorem z_M_waysHosts_L6 {g : GP} {x : CX} {d : Nat} (X : zX g x RX12 cX12_waysHosts 7 (d + 1)) (hd : 2 ≤ d) (IH : M_waysOf_G_IH (xl x) g d) (l0 l1 l2 l3 : Int)  (E : Int × Hp → Prop) (hx0 : ∀ e : Int × Hp, E (e) → ZV g x 7 e.2 59 [(4, (1, e.1))] []) (l4 l6 : Int) (h : Hp) (y : (Int × Int × Hp) ⊕ (Int × Hp)) (hf : M_waysHosts_L6 (M_waysOf_G d) d l0 l1 l2 l3 l4 l6 h = some y) (hk : z_sum (fun q : Int × Int × Hp => ZV g x 7 q.2.2 6 [(0, (2, l0)), (1, (0, l1)), (2, (0, l2)), (3, (0, l3)), (4, (1, q.1)), (6, (0, q.2.1))] []) E y) : ZV g x 7 h 6 [(0, (2, l0)), (1, (0, l1)), (2, (0, l2)), (3, (0, l3)), (4, (1, l4)), (6, (0, l6))] [] := by
  unfold M_waysHosts_L6 at hf
  refine z_iload X dX12_waysHosts_6 5 rfl ?_
  refine z_aload_n X dX12_waysHosts_8 0 rfl ?_
  obtain ⟨g1, hf⟩ := gif hf
  refine y_get X fl_RX12_11 dX12_waysHosts_9 g1 ?_
  refine z_icmp_ge X dX12_waysHosts_12 rfl (fun hc12 => ?_) (fun hc12 => ?_)
  · have hf := ift hc12 hf
    cases hf
    exact z_weak [4] rfl (hx0 _ hk)
  · have hf := iff' hc12 hf
    refine z_aload_n X dX12_waysHosts_15 0 rfl ?_
    refine z_iload X dX12_waysHosts_16 5 rfl ?_
    refine z_aload_n X dX12_waysHosts_18 0 rfl ?_
    refine y_get X fl_RX12_101 dX12_waysHosts_19 g1 ?_
    refine z_iload_n X dX12_waysHosts_22 1 rfl ?_
    obtain ⟨g2, hf⟩ := gif hf
    refine y_iald X dX12_waysHosts_23 g2 ?_
    refine z_iconst X dX12_waysHosts_24 kc_0 ?_
    obtain ⟨r25, hr25, hf⟩ := obE hf
    refine y_V1 X cv_RX12_296 dX12_waysHosts_25 g1 (c_M_mayGo d (Nat.le_trans (by decide) hd) l0 l6 (h (h l0 6) l1) 0 h r25 hr25) (as := [(0, l6), (0, h (h l0 6) l1), (0, 0)]) rfl rfl (Nat.le_of_ble_eq_true rfl) z00 ?_
    refine z_if_eq X dX12_waysHosts_28 rfl (fun hc28 => ?_) (fun hc28 => ?_)
    · have hf := ift hc28 hf
      exact (z_M_waysHosts_j53 X hd IH l0 l1 l2 l3 l4 l6 h _ hf E hx0 hk)
    · have hf := iff' hc28 hf
      refine z_lload X dX12_waysHosts_31 4 rfl ?_
      refine z_aload_n X dX12_waysHosts_33 0 rfl ?_
      refine z_iconst X dX12_waysHosts_34 kc_1 ?_
      refine z_aload_n X dX12_waysHosts_35 0 rfl ?_
      refine z_iload X dX12_waysHosts_36 5 rfl ?_
      obtain ⟨r38, hr38, hf⟩ := obE hf
      refine y_V1 X cv_RX12_268 dX12_waysHosts_38 g1 (c_M_root d (Nat.zero_le _) l0 l6 h r38 hr38) (as := [(0, l6)]) rfl rfl (Nat.le_of_ble_eq_true rfl) z00 ?_
      refine z_iload_n X dX12_waysHosts_41 2 rfl ?_
      refine z_iload_n X dX12_waysHosts_42 3 rfl ?_
      refine z_iconst X dX12_waysHosts_43 kc_m1 ?_
      refine z_iconst X dX12_waysHosts_44 kc_m1 ?_
      obtain ⟨r45, hr45, hf⟩ := obE hf
      refine y_V1 X cv_RX12_292 dX12_waysHosts_45 g1 (IH.1 l0 1 r38 l2 l3 ((-1)) ((-1)) h r45 hr45) (as := [(0, 1), (0, r38), (0, l2), (0, l3), (0, (-1)), (0, (-1))]) rfl rfl (Nat.le_of_ble_eq_true rfl) z00 ?_
      obtain ⟨r48, hr48, hf⟩ := obE hf
      refine y_S1 X cs_RX12_304 dX12_waysHosts_48 (c_M_sum d (Nat.le_trans (by decide) hd) l4 r45.1 r45.2 r48 hr48) (as := [(1, l4), (1, r45.1)]) rfl rfl (Nat.le_of_ble_eq_true rfl) z00 ?_
      refine z_lstore X dX12_waysHosts_51 (by decide) (ls' := [(4, (1, r48)), (0, (2, l0)), (1, (0, l1)), (2, (0, l2)), (3, (0, l3)), (6, (0, l6))]) rfl ?_
      exact z_weak [1, 2, 3, 4, 0, 5] rfl (z_M_waysHosts_j53 X hd IH l0 l1 l2 l3 r48 l6 r45.2 _ hf E hx0 hk)
set_option maxHeartbeats 4000000 in
set_option maxRecDepth 100000 in
theorem cb_M_waysHosts {l : Launch} {g : GP} {d : Nat} (IH : M_waysOf_G_IH l g d) (hd : 2 ≤ d) (l0 l1 l2 l3 : Int) (h : Hp) (y : Int × Hp) (hf : M_waysHosts_b (M_waysOf_G d) d l0 l1 l2 l3 h = some y) : zM l yX12_waysHosts cX12_waysHosts 7 (some .long) (d + 1) 0 0 g 157 h [(2, l0), (0, l1), (0, l2), (0, l3)] 157 y.2 (some (1, y.1)) := by
  refine z_start (by decide) (Nat.le_of_ble_eq_true rfl) (fun x X hK _ _ _ hl => ?_)
  have IH : M_waysOf_G_IH (xl x) g d := hl ▸ IH
  show ZV g x 7 h 0 [(0, (2, l0)), (1, (0, l1)), (2, (0, l2)), (3, (0, l3))] []
  unfold M_waysHosts_b at hf
  refine z_lconst0 X dX12_waysHosts_0 ?_
  refine z_lstore X dX12_waysHosts_1 (by decide) (ls' := [(4, (1, 0)), (0, (2, l0)), (1, (0, l1)), (2, (0, l2)), (3, (0, l3))]) rfl ?_
  refine z_iconst X dX12_waysHosts_3 kc_0 ?_
  refine z_istore X dX12_waysHosts_4 (by decide) (ls' := [(6, (0, 0)), (4, (1, 0)), (0, (2, l0)), (1, (0, l1)), (2, (0, l2)), (3, (0, l3))]) rfl ?_
  obtain ⟨q6, hq6, hf⟩ := obE hf
  have hx6_0 : ∀ e59 : Int × Hp, (e59 : Int × Hp) = q6 → ZV g x 7 e59.2 59 [(4, (1, e59.1))] [] := by
    intro e59 hq
    subst hq
    refine z_lload X dX12_waysHosts_59 0 rfl ?_
    cases hf
    exact z_lret X hK dX12_waysHosts_61
  exact z_weak [2, 3, 4, 5, 1, 0] rfl (z_loop (Z := (fun q : Int × Int × Hp => ZV g x 7 q.2.2 6 [(0, (2, l0)), (1, (0, l1)), (2, (0, l2)), (3, (0, l3)), (4, (1, q.1)), (6, (0, q.2.1))] [])) (E := fun q => q = q6) (fun q y hb hk => z_M_waysHosts_L6 X hd IH l0 l1 l2 l3 (fun q => q = q6) hx6_0 q.1 q.2.1 q.2.2 y hb hk) LN (0, 0, h) q6 hq6 rfl)
set_option maxHeartbeats 4000000 in
set_option maxRecDepth 100000 in
theorem z_M_waysFirst_j45 {g : GP} {x : CX} {d : Nat} (X : zX g x RX12 cX12_waysFirst 7 (d + 1)) (hd : 2 ≤ d) (IH : M_waysOf_G_IH (xl x) g d) (s0 s1 s2 s3 s4 s5 s6 : Int) (h : Hp) (y : Int × Hp) (hf : M_waysFirst_j45 (M_waysOf_G d) d s0 s1 s2 s3 s4 s5 s6 h = some y) (hK : zE g x (some .long) 0 0 157 y.2 (some (1, y.1))) : ZV g x 7 h 45 [] [(0, s0), (0, s1), (0, s2), (0, s3), (0, s4), (0, s5), (2, s6)] := by
  unfold M_waysFirst_j45 at hf
  obtain ⟨g4, hf⟩ := gif hf
  obtain ⟨r45, hr45, hf⟩ := obE hf
  refine y_V1 X cv_RX12_292 dX12_waysFirst_45 g4 (IH.1 s6 s5 s4 s3 s2 s1 s0 h r45 hr45) (as := [(0, s5), (0, s4), (0, s3), (0, s2), (0, s1), (0, s0)]) rfl rfl (Nat.le_of_ble_eq_true rfl) z00 ?_
  cases hf
  exact z_lret X hK dX12_waysFirst_48
set_option maxHeartbeats 4000000 in
set_option maxRecDepth 100000 in
theorem z_M_waysFirst_j34 {g : GP} {x : CX} {d : Nat} (X : zX g x RX12 cX12_waysFirst 7 (d + 1)) (hd : 2 ≤ d) (IH : M_waysOf_G_IH (xl x) g d) (l5 l6 s0 s1 s2 s3 s4 s5 : Int) (h : Hp) (y : Int × Hp) (hf : M_waysFirst_j34 (M_waysOf_G d) d l5 l6 s0 s1 s2 s3 s4 s5 h = some y) (hK : zE g x (some .long) 0 0 157 y.2 (some (1, y.1))) : ZV g x 7 h 34 [(5, (0, l5)), (6, (0, l6))] [(0, s0), (0, s1), (0, s2), (0, s3), (0, s4), (2, s5)] := by
  unfold M_waysFirst_j34 at hf
  refine z_iload X dX12_waysFirst_34 1 rfl ?_
  refine z_if_eq X dX12_waysFirst_36 rfl (fun hc36 => ?_) (fun hc36 => ?_)
  · rw [if_pos hc36] at hf
    refine z_iconst X dX12_waysFirst_44 kc_m1 ?_
    exact z_weak [] rfl (z_M_waysFirst_j45 X hd IH ((-1)) s0 s1 s2 s3 s4 s5 h _ hf hK)
  · rw [if_neg hc36] at hf
    refine z_iload X dX12_waysFirst_39 0 rfl ?_
    refine z_goto X dX12_waysFirst_41 rfl ?_
    exact z_weak [] rfl (z_M_waysFirst_j45 X hd IH l5 s0 s1 s2 s3 s4 s5 h _ hf hK)
set_option maxHeartbeats 4000000 in
set_option maxRecDepth 100000 in
theorem cb_M_waysFirst {l : Launch} {g : GP} {d : Nat} (IH : M_waysOf_G_IH l g d) (hd : 2 ≤ d) (l0 l1 l2 l3 l4 l5 : Int) (h : Hp) (y : Int × Hp) (hf : M_waysFirst_b (M_waysOf_G d) d l0 l1 l2 l3 l4 l5 h = some y) : zM l yX12_waysFirst cX12_waysFirst 7 (some .long) (d + 1) 0 0 g 157 h [(2, l0), (0, l1), (0, l2), (0, l3), (0, l4), (0, l5)] 157 y.2 (some (1, y.1)) := by
  refine z_start (by decide) (Nat.le_of_ble_eq_true rfl) (fun x X hK _ _ _ hl => ?_)
  have IH : M_waysOf_G_IH (xl x) g d := hl ▸ IH
  show ZV g x 7 h 0 [(0, (2, l0)), (1, (0, l1)), (2, (0, l2)), (3, (0, l3)), (4, (0, l4)), (5, (0, l5))] []
  unfold M_waysFirst_b at hf
  refine z_aload_n X dX12_waysFirst_0 0 rfl ?_
  obtain ⟨g1, hf⟩ := gif hf
  refine y_get X fl_RX12_167 dX12_waysFirst_1 g1 ?_
  refine z_aload_n X dX12_waysFirst_4 0 rfl ?_
  refine y_get X fl_RX12_107 dX12_waysFirst_5 g1 ?_
  refine z_iload_n X dX12_waysFirst_8 1 rfl ?_
  obtain ⟨g2, hf⟩ := gif hf
  refine y_iald X dX12_waysFirst_9 g2 ?_
  obtain ⟨g3, hf⟩ := gif hf
  refine y_zald X dX12_waysFirst_10 g3 ?_
  refine z_istore X dX12_waysFirst_11 (by decide) (ls' := [(6, (0, h (h l0 14) (h (h l0 8) l1))), (0, (2, l0)), (1, (0, l1)), (2, (0, l2)), (3, (0, l3)), (4, (0, l4)), (5, (0, l5))]) rfl ?_
  refine z_aload_n X dX12_waysFirst_13 1 rfl ?_
  refine z_iconst X dX12_waysFirst_14 kc_1 ?_
  refine z_aload_n X dX12_waysFirst_15 1 rfl ?_
  refine y_get X fl_RX12_107 dX12_waysFirst_16 g1 ?_
  refine z_iload_n X dX12_waysFirst_19 2 rfl ?_
  refine y_iald X dX12_waysFirst_20 g2 ?_
  refine z_iload_n X dX12_waysFirst_21 3 rfl ?_
  refine z_iload_n X dX12_waysFirst_22 4 rfl ?_
  refine z_iload X dX12_waysFirst_23 0 rfl ?_
  refine z_if_eq X dX12_waysFirst_25 rfl (fun hc25 => ?_) (fun hc25 => ?_)
  · rw [if_pos hc25] at hf
    refine z_iconst X dX12_waysFirst_33 kc_m1 ?_
    exact z_weak [6, 0] rfl (z_M_waysFirst_j34 X hd IH l5 (h (h l0 14) (h (h l0 8) l1)) ((-1)) l3 l2 (h (h l0 8) l1) 1 l0 h _ hf hK)
  · rw [if_neg hc25] at hf
    refine z_iload X dX12_waysFirst_28 5 rfl ?_
    refine z_goto X dX12_waysFirst_30 rfl ?_
    exact z_weak [6, 0] rfl (z_M_waysFirst_j34 X hd IH l5 (h (h l0 14) (h (h l0 8) l1)) l4 l3 l2 (h (h l0 8) l1) 1 l0 h _ hf hK)
set_option maxHeartbeats 4000000 in
set_option maxRecDepth 100000 in
theorem z_M_waysSecond_j45 {g : GP} {x : CX} {d : Nat} (X : zX g x RX12 cX12_waysSecond 7 (d + 1)) (hd : 2 ≤ d) (IH : M_waysOf_G_IH (xl x) g d) (s0 s1 s2 s3 s4 s5 s6 : Int) (h : Hp) (y : Int × Hp) (hf : M_waysSecond_j45 (M_waysOf_G d) d s0 s1 s2 s3 s4 s5 s6 h = some y) (hK : zE g x (some .long) 0 0 157 y.2 (some (1, y.1))) : ZV g x 7 h 45 [] [(0, s0), (0, s1), (0, s2), (0, s3), (0, s4), (0, s5), (2, s6)] := by
  unfold M_waysSecond_j45 at hf
  obtain ⟨g4, hf⟩ := gif hf
  obtain ⟨r45, hr45, hf⟩ := obE hf
  refine y_V1 X cv_RX12_292 dX12_waysSecond_45 g4 (IH.1 s6 s5 s4 s3 s2 s1 s0 h r45 hr45) (as := [(0, s5), (0, s4), (0, s3), (0, s2), (0, s1), (0, s0)]) rfl rfl (Nat.le_of_ble_eq_true rfl) z00 ?_
  cases hf
  exact z_lret X hK dX12_waysSecond_48
set_option maxHeartbeats 4000000 in
set_option maxRecDepth 100000 in
theorem z_M_waysSecond_j34 {g : GP} {x : CX} {d : Nat} (X : zX g x RX12 cX12_waysSecond 7 (d + 1)) (hd : 2 ≤ d) (IH : M_waysOf_G_IH (xl x) g d) (l5 l6 s0 s1 s2 s3 s4 s5 : Int) (h : Hp) (y : Int × Hp) (hf : M_waysSecond_j34 (M_waysOf_G d) d l5 l6 s0 s1 s2 s3 s4 s5 h = some y) (hK : zE g x (some .long) 0 0 157 y.2 (some (1, y.1))) : ZV g x 7 h 34 [(5, (0, l5)), (6, (0, l6))] [(0, s0), (0, s1), (0, s2), (0, s3), (0, s4), (2, s5)] := by
  unfold M_waysSecond_j34 at hf
  refine z_iload X dX12_waysSecond_34 1 rfl ?_
  refine z_if_eq X dX12_waysSecond_36 rfl (fun hc36 => ?_) (fun hc36 => ?_)
  · rw [if_pos hc36] at hf
    refine z_iconst X dX12_waysSecond_44 kc_m1 ?_
    exact z_weak [] rfl (z_M_waysSecond_j45 X hd IH ((-1)) s0 s1 s2 s3 s4 s5 h _ hf hK)
  · rw [if_neg hc36] at hf
    refine z_iload X dX12_waysSecond_39 0 rfl ?_
    refine z_goto X dX12_waysSecond_41 rfl ?_
    exact z_weak [] rfl (z_M_waysSecond_j45 X hd IH l5 s0 s1 s2 s3 s4 s5 h _ hf hK)
set_option maxHeartbeats 4000000 in
set_option maxRecDepth 100000 in
theorem cb_M_waysSecond {l : Launch} {g : GP} {d : Nat} (IH : M_waysOf_G_IH l g d) (hd : 2 ≤ d) (l0 l1 l2 l3 l4 l5 : Int) (h : Hp) (y : Int × Hp) (hf : M_waysSecond_b (M_waysOf_G d) d l0 l1 l2 l3 l4 l5 h = some y) : zM l yX12_waysSecond cX12_waysSecond 7 (some .long) (d + 1) 0 0 g 157 h [(2, l0), (0, l1), (0, l2), (0, l3), (0, l4), (0, l5)] 157 y.2 (some (1, y.1)) := by
  refine z_start (by decide) (Nat.le_of_ble_eq_true rfl) (fun x X hK _ _ _ hl => ?_)
  have IH : M_waysOf_G_IH (xl x) g d := hl ▸ IH
  show ZV g x 7 h 0 [(0, (2, l0)), (1, (0, l1)), (2, (0, l2)), (3, (0, l3)), (4, (0, l4)), (5, (0, l5))] []
  unfold M_waysSecond_b at hf
  refine z_aload_n X dX12_waysSecond_0 0 rfl ?_
  obtain ⟨g1, hf⟩ := gif hf
  refine y_get X fl_RX12_167 dX12_waysSecond_1 g1 ?_
  refine z_aload_n X dX12_waysSecond_4 0 rfl ?_
  refine y_get X fl_RX12_110 dX12_waysSecond_5 g1 ?_
  refine z_iload_n X dX12_waysSecond_8 1 rfl ?_
  obtain ⟨g2, hf⟩ := gif hf
  refine y_iald X dX12_waysSecond_9 g2 ?_
  obtain ⟨g3, hf⟩ := gif hf
  refine y_zald X dX12_waysSecond_10 g3 ?_
  refine z_istore X dX12_waysSecond_11 (by decide) (ls' := [(6, (0, h (h l0 14) (h (h l0 9) l1))), (0, (2, l0)), (1, (0, l1)), (2, (0, l2)), (3, (0, l3)), (4, (0, l4)), (5, (0, l5))]) rfl ?_
  refine z_aload_n X dX12_waysSecond_13 1 rfl ?_
  refine z_iconst X dX12_waysSecond_14 kc_1 ?_
  refine z_aload_n X dX12_waysSecond_15 1 rfl ?_
  refine y_get X fl_RX12_110 dX12_waysSecond_16 g1 ?_
  refine z_iload_n X dX12_waysSecond_19 2 rfl ?_
  refine y_iald X dX12_waysSecond_20 g2 ?_
  refine z_iload_n X dX12_waysSecond_21 3 rfl ?_
  refine z_iload_n X dX12_waysSecond_22 4 rfl ?_
  refine z_iload X dX12_waysSecond_23 0 rfl ?_
  refine z_if_eq X dX12_waysSecond_25 rfl (fun hc25 => ?_) (fun hc25 => ?_)
  · rw [if_pos hc25] at hf
    refine z_iconst X dX12_waysSecond_33 kc_m1 ?_
    exact z_weak [6, 0] rfl (z_M_waysSecond_j34 X hd IH l5 (h (h l0 14) (h (h l0 9) l1)) ((-1)) l3 l2 (h (h l0 9) l1) 1 l0 h _ hf hK)
  · rw [if_neg hc25] at hf
    refine z_iload X dX12_waysSecond_28 5 rfl ?_
    refine z_goto X dX12_waysSecond_30 rfl ?_
    exact z_weak [6, 0] rfl (z_M_waysSecond_j34 X hd IH l5 (h (h l0 14) (h (h l0 9) l1)) l4 l3 l2 (h (h l0 9) l1) 1 l0 h _ hf hK)
set_option maxHeartbeats 4000000 in
set_option maxRecDepth 100000 in
theorem cb_M_waysSplit {l : Launch} {g : GP} {d : Nat} (IH : M_waysOf_G_IH l g d) (hd : 2 ≤ d) (l0 l1 l2 l3 l4 l5 l6 : Int) (h : Hp) (y : Int × Hp) (hf : M_waysSplit_b (M_waysOf_G d) d l0 l1 l2 l3 l4 l5 l6 h = some y) : zM l yX12_waysSplit cX12_waysSplit 7 (some .long) (d + 1) 0 0 g 157 h [(2, l0), (0, l1), (0, l2), (0, l3), (0, l4), (0, l5), (0, l6)] 157 y.2 (some (1, y.1)) := by
  refine z_start (by decide) (Nat.le_of_ble_eq_true rfl) (fun x X hK _ _ _ hl => ?_)
  have IH : M_waysOf_G_IH (xl x) g d := hl ▸ IH
  show ZV g x 7 h 0 [(0, (2, l0)), (1, (0, l1)), (2, (0, l2)), (3, (0, l3)), (4, (0, l4)), (5, (0, l5)), (6, (0, l6))] []
  unfold M_waysSplit_b at hf
  refine z_aload_n X dX12_waysSplit_0 0 rfl ?_
  refine z_iload_n X dX12_waysSplit_1 1 rfl ?_
  refine z_iload_n X dX12_waysSplit_2 2 rfl ?_
  refine z_iload_n X dX12_waysSplit_3 3 rfl ?_
  refine z_iload X dX12_waysSplit_4 4 rfl ?_
  refine z_iload X dX12_waysSplit_6 5 rfl ?_
  refine z_iload X dX12_waysSplit_8 6 rfl ?_
  obtain ⟨g1, hf⟩ := gif hf
  obtain ⟨r10, hr10, hf⟩ := obE hf
  refine y_V1 X cv_RX12_317 dX12_waysSplit_10 g1 (c_M_canSplit d (Nat.le_trans (by decide) hd) l0 l1 l2 l3 l4 l5 l6 h r10 hr10) (as := [(0, l1), (0, l2), (0, l3), (0, l4), (0, l5), (0, l6)]) rfl rfl (Nat.le_of_ble_eq_true rfl) z00 ?_
  refine z_if_ne X dX12_waysSplit_13 rfl (fun hc13 => ?_) (fun hc13 => ?_)
  · have hf := iff' hc13 hf
    refine z_aload_n X dX12_waysSplit_18 0 rfl ?_
    refine z_iload_n X dX12_waysSplit_19 1 rfl ?_
    refine z_iload_n X dX12_waysSplit_20 2 rfl ?_
    refine z_iload_n X dX12_waysSplit_21 3 rfl ?_
    refine z_iload X dX12_waysSplit_22 5 rfl ?_
    refine z_iload X dX12_waysSplit_24 6 rfl ?_
    obtain ⟨r26, hr26, hf⟩ := obE hf
    refine y_V1 X cv_RX12_321 dX12_waysSplit_26 g1 (IH.2.2.2.2.2.1 l0 l1 l2 l3 l5 l6 h r26 hr26) (as := [(0, l1), (0, l2), (0, l3), (0, l5), (0, l6)]) rfl rfl (Nat.le_of_ble_eq_true rfl) z00 ?_
    refine z_aload_n X dX12_waysSplit_29 0 rfl ?_
    refine z_iload_n X dX12_waysSplit_30 1 rfl ?_
    refine z_iload_n X dX12_waysSplit_31 3 rfl ?_
    refine z_iload X dX12_waysSplit_32 4 rfl ?_
    refine z_iload X dX12_waysSplit_34 5 rfl ?_
    refine z_iload X dX12_waysSplit_36 6 rfl ?_
    obtain ⟨r38, hr38, hf⟩ := obE hf
    refine y_V1 X cv_RX12_324 dX12_waysSplit_38 g1 (IH.2.2.2.2.2.2.1 l0 l1 l3 l4 l5 l6 r26.2 r38 hr38) (as := [(0, l1), (0, l3), (0, l4), (0, l5), (0, l6)]) rfl rfl (Nat.le_of_ble_eq_true rfl) z00 ?_
    obtain ⟨r41, hr41, hf⟩ := obE hf
    refine y_S1 X cs_RX12_307 dX12_waysSplit_41 (c_M_product d (Nat.zero_le _) r26.1 r38.1 r38.2 r41 hr41) (as := [(1, r26.1), (1, r38.1)]) rfl rfl (Nat.le_of_ble_eq_true rfl) z00 ?_
    cases hf
    exact z_lret X hK dX12_waysSplit_44
  · have hf := ift hc13 hf
    refine z_lconst0 X dX12_waysSplit_16 ?_
    cases hf
    exact z_lret X hK dX12_waysSplit_17
set_option maxHeartbeats 4000000 in
set_option maxRecDepth 100000 in
theorem M_waysOf_G_ok (l : Launch) (g : GP) : ∀ d, M_waysOf_G_IH l g d
  | 0 => ⟨fun _ _ _ _ _ _ _ h y hf => (nomatch (show none = some y from hf)), fun _ _ _ _ _ _ h y hf => (nomatch (show none = some y from hf)), fun _ _ _ _ _ _ _ _ _ h y hf => (nomatch (show none = some y from hf)), fun _ _ _ _ _ _ h y hf => (nomatch (show none = some y from hf)), fun _ _ _ _ h y hf => (nomatch (show none = some y from hf)), fun _ _ _ _ _ _ h y hf => (nomatch (show none = some y from hf)), fun _ _ _ _ _ _ h y hf => (nomatch (show none = some y from hf)), fun _ _ _ _ _ _ _ h y hf => (nomatch (show none = some y from hf))⟩
  | d + 1 => by
    have IH := M_waysOf_G_ok l g d
    refine ⟨fun l0 l1 l2 l3 l4 l5 l6 h y hf => ?_, fun l0 l1 l2 l3 l4 l5 h y hf => ?_, fun l0 l1 l2 l3 l4 l5 l6 l7 l8 h y hf => ?_, fun l0 l1 l2 l3 l4 l5 h y hf => ?_, fun l0 l1 l2 l3 h y hf => ?_, fun l0 l1 l2 l3 l4 l5 h y hf => ?_, fun l0 l1 l2 l3 l4 l5 h y hf => ?_, fun l0 l1 l2 l3 l4 l5 l6 h y hf => ?_⟩
    · obtain ⟨hd, hf⟩ := gif (show (if 2 ≤ d then M_waysOf_b (M_waysOf_G d) d l0 l1 l2 l3 l4 l5 l6 h else none) = some y from hf)
      exact cb_M_waysOf IH hd l0 l1 l2 l3 l4 l5 l6 h y hf
    · obtain ⟨hd, hf⟩ := gif (show (if 2 ≤ d then M_waysAbove_b (M_waysOf_G d) d l0 l1 l2 l3 l4 l5 h else none) = some y from hf)
      exact cb_M_waysAbove IH hd l0 l1 l2 l3 l4 l5 h y hf
    · obtain ⟨hd, hf⟩ := gif (show (if 2 ≤ d then M_waysAround_b (M_waysOf_G d) d l0 l1 l2 l3 l4 l5 l6 l7 l8 h else none) = some y from hf)
      exact cb_M_waysAround IH hd l0 l1 l2 l3 l4 l5 l6 l7 l8 h y hf
    · obtain ⟨hd, hf⟩ := gif (show (if 2 ≤ d then M_waysBelow_b (M_waysOf_G d) d l0 l1 l2 l3 l4 l5 h else none) = some y from hf)
      exact cb_M_waysBelow IH hd l0 l1 l2 l3 l4 l5 h y hf
    · obtain ⟨hd, hf⟩ := gif (show (if 2 ≤ d then M_waysHosts_b (M_waysOf_G d) d l0 l1 l2 l3 h else none) = some y from hf)
      exact cb_M_waysHosts IH hd l0 l1 l2 l3 h y hf
    · obtain ⟨hd, hf⟩ := gif (show (if 2 ≤ d then M_waysFirst_b (M_waysOf_G d) d l0 l1 l2 l3 l4 l5 h else none) = some y from hf)
      exact cb_M_waysFirst IH hd l0 l1 l2 l3 l4 l5 h y hf
    · obtain ⟨hd, hf⟩ := gif (show (if 2 ≤ d then M_waysSecond_b (M_waysOf_G d) d l0 l1 l2 l3 l4 l5 h else none) = some y from hf)
      exact cb_M_waysSecond IH hd l0 l1 l2 l3 l4 l5 h y hf
    · obtain ⟨hd, hf⟩ := gif (show (if 2 ≤ d then M_waysSplit_b (M_waysOf_G d) d l0 l1 l2 l3 l4 l5 l6 h else none) = some y from hf)
      exact cb_M_waysSplit IH hd l0 l1 l2 l3 l4 l5 l6 h y hf
set_option maxHeartbeats 4000000 in
set_option maxRecDepth 100000 in
theorem c_M_waysOf {l : Launch} {g : GP} (d : Nat) (l0 l1 l2 l3 l4 l5 l6 : Int) (h : Hp) (y : Int × Hp) (hf : M_waysOf d l0 l1 l2 l3 l4 l5 l6 h = some y) : zM l yX12_waysOf cX12_waysOf 8 (some .long) d 0 0 g 157 h [(2, l0), (0, l1), (0, l2), (0, l3), (0, l4), (0, l5), (0, l6)] 157 y.2 (some (1, y.1)) := (M_waysOf_G_ok l g d).1 l0 l1 l2 l3 l4 l5 l6 h y hf
set_option maxHeartbeats 4000000 in
set_option maxRecDepth 100000 in
theorem c_M_waysAbove {l : Launch} {g : GP} (d : Nat) (l0 l1 l2 l3 l4 l5 : Int) (h : Hp) (y : Int × Hp) (hf : M_waysAbove d l0 l1 l2 l3 l4 l5 h = some y) : zM l yX12_waysAbove cX12_waysAbove 11 (some .long) d 0 0 g 157 h [(2, l0), (0, l1), (0, l2), (0, l3), (0, l4), (0, l5)] 157 y.2 (some (1, y.1)) := (M_waysOf_G_ok l g d).2.1 l0 l1 l2 l3 l4 l5 h y hf
set_option maxHeartbeats 4000000 in
set_option maxRecDepth 100000 in
theorem c_M_waysAround {l : Launch} {g : GP} (d : Nat) (l0 l1 l2 l3 l4 l5 l6 l7 l8 : Int) (h : Hp) (y : Int × Hp) (hf : M_waysAround d l0 l1 l2 l3 l4 l5 l6 l7 l8 h = some y) : zM l yX12_waysAround cX12_waysAround 11 (some .long) d 0 0 g 157 h [(2, l0), (0, l1), (0, l2), (0, l3), (0, l4), (0, l5), (0, l6), (0, l7), (0, l8)] 157 y.2 (some (1, y.1)) := (M_waysOf_G_ok l g d).2.2.1 l0 l1 l2 l3 l4 l5 l6 l7 l8 h y hf
set_option maxHeartbeats 4000000 in
set_option maxRecDepth 100000 in
theorem c_M_waysBelow {l : Launch} {g : GP} (d : Nat) (l0 l1 l2 l3 l4 l5 : Int) (h : Hp) (y : Int × Hp) (hf : M_waysBelow d l0 l1 l2 l3 l4 l5 h = some y) : zM l yX12_waysBelow cX12_waysBelow 9 (some .long) d 0 0 g 157 h [(2, l0), (0, l1), (0, l2), (0, l3), (0, l4), (0, l5)] 157 y.2 (some (1, y.1)) := (M_waysOf_G_ok l g d).2.2.2.1 l0 l1 l2 l3 l4 l5 h y hf
set_option maxHeartbeats 4000000 in
set_option maxRecDepth 100000 in
theorem c_M_waysHosts {l : Launch} {g : GP} (d : Nat) (l0 l1 l2 l3 : Int) (h : Hp) (y : Int × Hp) (hf : M_waysHosts d l0 l1 l2 l3 h = some y) : zM l yX12_waysHosts cX12_waysHosts 7 (some .long) d 0 0 g 157 h [(2, l0), (0, l1), (0, l2), (0, l3)] 157 y.2 (some (1, y.1)) := (M_waysOf_G_ok l g d).2.2.2.2.1 l0 l1 l2 l3 h y hf
set_option maxHeartbeats 4000000 in
set_option maxRecDepth 100000 in
theorem c_M_waysFirst {l : Launch} {g : GP} (d : Nat) (l0 l1 l2 l3 l4 l5 : Int) (h : Hp) (y : Int × Hp) (hf : M_waysFirst d l0 l1 l2 l3 l4 l5 h = some y) : zM l yX12_waysFirst cX12_waysFirst 7 (some .long) d 0 0 g 157 h [(2, l0), (0, l1), (0, l2), (0, l3), (0, l4), (0, l5)] 157 y.2 (some (1, y.1)) := (M_waysOf_G_ok l g d).2.2.2.2.2.1 l0 l1 l2 l3 l4 l5 h y hf
set_option maxHeartbeats 4000000 in
set_option maxRecDepth 100000 in
theorem c_M_waysSecond {l : Launch} {g : GP} (d : Nat) (l0 l1 l2 l3 l4 l5 : Int) (h : Hp) (y : Int × Hp) (hf : M_waysSecond d l0 l1 l2 l3 l4 l5 h = some y) : zM l yX12_waysSecond cX12_waysSecond 7 (some .long) d 0 0 g 157 h [(2, l0), (0, l1), (0, l2), (0, l3), (0, l4), (0, l5)] 157 y.2 (some (1, y.1)) := (M_waysOf_G_ok l g d).2.2.2.2.2.2.1 l0 l1 l2 l3 l4 l5 h y hf
set_option maxHeartbeats 4000000 in
set_option maxRecDepth 100000 in
theorem c_M_waysSplit {l : Launch} {g : GP} (d : Nat) (l0 l1 l2 l3 l4 l5 l6 : Int) (h : Hp) (y : Int × Hp) (hf : M_waysSplit d l0 l1 l2 l3 l4 l5 l6 h = some y) : zM l yX12_waysSplit cX12_waysSplit 7 (some .long) d 0 0 g 157 h [(2, l0), (0, l1), (0, l2), (0, l3), (0, l4), (0, l5), (0, l6)] 157 y.2 (some (1, y.1)) := (M_waysOf_G_ok l g d).2.2.2.2.2.2.2 l0 l1 l2 l3 l4 l5 l6 h y hf
set_option maxHeartbeats 4000000 in
set_option maxRecDepth 100000 in
theorem z_M_best_j10 {g : GP} {x : CX} {d : Nat} (X : zX g x RX12 cX12_best 4 (d + 1)) (hd : 0 ≤ d) (l1 l2 : Int) (h : Hp) (y : Int) (hf : M_best_j10 l1 l2 = some y) (hK : zE g x (some .int) 0 0 157 h (some (0, y))) : ZV g x 4 h 10 [(1, (0, l1)), (2, (0, l2))] [] := by
  unfold M_best_j10 at hf
  refine z_iload_n X dX12_best_10 0 rfl ?_
  refine z_iload_n X dX12_best_11 1 rfl ?_
  refine y_max X cm_RX12_327 dX12_best_12 (Nat.le_of_ble_eq_true rfl) ?_
  cases hf
  exact z_iret X hK dX12_best_15
set_option maxHeartbeats 4000000 in
set_option maxRecDepth 100000 in
theorem c_M_best {l : Launch} {g : GP} (d : Nat) (hd : 1 ≤ d) (l0 l1 l2 l3 : Int) (h : Hp) (y : Int) (hf : M_best l0 l1 l2 l3 = some y) : zM l yX12_best cX12_best 4 (some .int) d 0 0 g 157 h [(2, l0), (0, l1), (0, l2), (0, l3)] 157 h (some (0, y)) := by
  obtain ⟨d, rfl⟩ : ∃ k, d = k + 1 := ⟨d - 1, by omega⟩
  replace hd : 0 ≤ d := Nat.le_of_succ_le_succ hd
  refine z_start (by decide) (Nat.le_of_ble_eq_true rfl) (fun x X hK _ _ _ hl => ?_)
  show ZV g x 4 h 0 [(0, (2, l0)), (1, (0, l1)), (2, (0, l2)), (3, (0, l3))] []
  unfold M_best at hf
  refine z_iload_n X dX12_best_0 1 rfl ?_
  refine z_iconst X dX12_best_1 kc_m1 ?_
  refine z_icmp_eq X dX12_best_2 rfl (fun hc2 => ?_) (fun hc2 => ?_)
  · have hf := ift hc2 hf
    exact z_weak [1, 2] rfl (z_M_best_j10 X hd l1 l2 h _ hf hK)
  · have hf := iff' hc2 hf
    refine z_iload_n X dX12_best_5 2 rfl ?_
    refine z_iconst X dX12_best_6 kc_m1 ?_
    refine z_icmp_ne X dX12_best_7 rfl (fun hc7 => ?_) (fun hc7 => ?_)
    · have hf := iff' hc7 hf
      refine z_iload_n X dX12_best_16 3 rfl ?_
      refine z_if_eq X dX12_best_17 rfl (fun hc17 => ?_) (fun hc17 => ?_)
      · rw [if_pos hc17] at hf
        refine z_iload_n X dX12_best_28 1 rfl ?_
        refine z_iload_n X dX12_best_29 2 rfl ?_
        refine y_min X cm_RX12_330 dX12_best_30 (Nat.le_of_ble_eq_true rfl) ?_
        cases hf
        exact z_iret X hK dX12_best_33
      · rw [if_neg hc17] at hf
        refine z_iload_n X dX12_best_20 1 rfl ?_
        refine z_iload_n X dX12_best_21 2 rfl ?_
        refine y_max X cm_RX12_327 dX12_best_22 (Nat.le_of_ble_eq_true rfl) ?_
        refine z_goto X dX12_best_25 rfl ?_
        cases hf
        exact z_iret X hK dX12_best_33
    · have hf := ift hc7 hf
      exact z_weak [1, 2] rfl (z_M_best_j10 X hd l1 l2 h _ hf hK)
set_option maxHeartbeats 4000000 in
set_option maxRecDepth 100000 in
theorem c_M_both {l : Launch} {g : GP} (d : Nat) (hd : 0 ≤ d) (l0 l1 : Int) (h : Hp) (y : Int) (hf : M_both l0 l1 = some y) : zM l yX12_both cX12_both 2 (some .int) d 0 0 g 157 h [(0, l0), (0, l1)] 157 h (some (0, y)) := by
  refine z_start (by decide) (Nat.le_of_ble_eq_true rfl) (fun x X hK _ _ _ hl => ?_)
  show ZV g x 2 h 0 [(0, (0, l0)), (1, (0, l1))] []
  unfold M_both at hf
  refine z_iload_n X dX12_both_0 0 rfl ?_
  refine z_iconst X dX12_both_1 kc_m1 ?_
  refine z_icmp_eq X dX12_both_2 rfl (fun hc2 => ?_) (fun hc2 => ?_)
  · rw [if_pos hc2] at hf
    refine z_iconst X dX12_both_10 kc_m1 ?_
    refine z_goto X dX12_both_11 rfl ?_
    cases hf
    exact z_iret X hK dX12_both_17
  · rw [if_neg hc2] at hf
    refine z_iload_n X dX12_both_5 1 rfl ?_
    refine z_iconst X dX12_both_6 kc_m1 ?_
    refine z_icmp_ne X dX12_both_7 rfl (fun hc7 => ?_) (fun hc7 => ?_)
    · rw [if_neg hc7] at hf
      refine z_iload_n X dX12_both_14 0 rfl ?_
      refine z_iload_n X dX12_both_15 1 rfl ?_
      refine z_iadd X dX12_both_16 ?_
      cases hf
      exact z_iret X hK dX12_both_17
    · rw [if_pos hc7] at hf
      refine z_iconst X dX12_both_10 kc_m1 ?_
      refine z_goto X dX12_both_11 rfl ?_
      cases hf
      exact z_iret X hK dX12_both_17
def M_stepsIn_G_IH (l : Launch) (g : GP) (d : Nat) : Prop := (∀ (l0 l1 l2 l3 l4 l5 l6 l7 : Int) (h : Hp) (y : Int × Hp), M_stepsIn_G d 0 [l0, l1, l2, l3, l4, l5, l6, l7] h = some y → zM l yX12_stepsIn cX12_stepsIn 10 (some .int) d 0 0 g 157 h [(2, l0), (0, l1), (0, l2), (0, l3), (0, l4), (0, l5), (0, l6), (0, l7)] 157 y.2 (some (0, y.1))) ∧ (∀ (l0 l1 l2 l3 l4 l5 l6 : Int) (h : Hp) (y : Int × Hp), M_stepsIn_G d 1 [l0, l1, l2, l3, l4, l5, l6] h = some y → zM l yX12_stepsAbove cX12_stepsAbove 11 (some .int) d 0 0 g 157 h [(2, l0), (0, l1), (0, l2), (0, l3), (0, l4), (0, l5), (0, l6)] 157 y.2 (some (0, y.1))) ∧ (∀ (l0 l1 l2 l3 l4 l5 l6 : Int) (h : Hp) (y : Int × Hp), M_stepsIn_G d 2 [l0, l1, l2, l3, l4, l5, l6] h = some y → zM l yX12_stepsBelow cX12_stepsBelow 11 (some .int) d 0 0 g 157 h [(2, l0), (0, l1), (0, l2), (0, l3), (0, l4), (0, l5), (0, l6)] 157 y.2 (some (0, y.1)))
set_option maxHeartbeats 4000000 in
set_option maxRecDepth 100000 in
theorem z_M_stepsIn_j116 {g : GP} {x : CX} {d : Nat} (X : zX g x RX12 cX12_stepsIn 10 (d + 1)) (hd : 1 ≤ d) (IH : M_stepsIn_G_IH (xl x) g d) (l8 l9 : Int) (h : Hp) (y : Int × Hp) (hf : M_stepsIn_j116 (M_stepsIn_G d) d l8 l9 h = some y) (hK : zE g x (some .int) 0 0 157 y.2 (some (0, y.1))) : ZV g x 10 h 116 [(8, (0, l8)), (9, (2, l9))] [] := by
  unfold M_stepsIn_j116 at hf
  refine z_aload X dX12_stepsIn_116 1 rfl ?_
  refine z_iload X dX12_stepsIn_118 0 rfl ?_
  obtain ⟨g4, hf⟩ := gif hf
  refine y_iald X dX12_stepsIn_120 g4 ?_
  cases hf
  exact z_iret X hK dX12_stepsIn_121
set_option maxHeartbeats 4000000 in
set_option maxRecDepth 100000 in
theorem z_M_stepsIn_j115 {g : GP} {x : CX} {d : Nat} (X : zX g x RX12 cX12_stepsIn 10 (d + 1)) (hd : 1 ≤ d) (IH : M_stepsIn_G_IH (xl x) g d) (l8 l9 s0 s1 s2 : Int) (h : Hp) (y : Int × Hp) (hf : M_stepsIn_j115 (M_stepsIn_G d) d l8 l9 s0 s1 s2 h = some y) (hK : zE g x (some .int) 0 0 157 y.2 (some (0, y.1))) : ZV g x 10 h 115 [(8, (0, l8)), (9, (2, l9))] [(0, s0), (0, s1), (2, s2)] := by
  unfold M_stepsIn_j115 at hf
  obtain ⟨g6, hf⟩ := gif hf
  refine y_iast X dX12_stepsIn_115 g6 ?_
  let h_1 : Hp := hput h s2 s1 s0
  exact (z_M_stepsIn_j116 X hd IH l8 l9 h_1 _ hf hK)
set_option maxHeartbeats 4000000 in
set_option maxRecDepth 100000 in
theorem z_M_stepsIn_j101 {g : GP} {x : CX} {d : Nat} (X : zX g x RX12 cX12_stepsIn 10 (d + 1)) (hd : 1 ≤ d) (IH : M_stepsIn_G_IH (xl x) g d) (l0 l2 l3 l4 l5 l6 l7 l8 l9 s0 s1 : Int) (h : Hp) (y : Int × Hp) (hf : M_stepsIn_j101 (M_stepsIn_G d) d l0 l2 l3 l4 l5 l6 l7 l8 l9 s0 s1 h = some y) (hK : zE g x (some .int) 0 0 157 y.2 (some (0, y.1))) : ZV g x 10 h 101 [(0, (2, l0)), (2, (0, l2)), (3, (0, l3)), (4, (0, l4)), (5, (0, l5)), (6, (0, l6)), (7, (0, l7)), (8, (0, l8)), (9, (2, l9))] [(0, s0), (2, s1)] := by
  unfold M_stepsIn_j101 at hf
  refine z_aload_n X dX12_stepsIn_101 0 rfl ?_
  refine z_iload_n X dX12_stepsIn_102 1 rfl ?_
  refine z_iload_n X dX12_stepsIn_103 2 rfl ?_
  refine z_iload X dX12_stepsIn_104 3 rfl ?_
  refine z_iload X dX12_stepsIn_106 4 rfl ?_
  refine z_iload X dX12_stepsIn_108 5 rfl ?_
  refine z_iload X dX12_stepsIn_110 6 rfl ?_
  obtain ⟨g5, hf⟩ := gif hf
  obtain ⟨r112, hr112, hf⟩ := obE hf
  refine y_V1 X cv_RX12_336 dX12_stepsIn_112 g5 (IH.2.2 l0 l2 l3 l4 l5 l6 l7 h r112 hr112) (as := [(0, l2), (0, l3), (0, l4), (0, l5), (0, l6), (0, l7)]) rfl rfl (Nat.le_of_ble_eq_true rfl) z00 ?_
  exact z_weak [7, 8] rfl (z_M_stepsIn_j115 X hd IH l8 l9 r112.1 s0 s1 r112.2 _ hf hK)
set_option maxHeartbeats 4000000 in
set_option maxRecDepth 100000 in
theorem z_M_stepsIn_j54 {g : GP} {x : CX} {d : Nat} (X : zX g x RX12 cX12_stepsIn 10 (d + 1)) (hd : 1 ≤ d) (IH : M_stepsIn_G_IH (xl x) g d) (l0 l1 l2 l3 l4 l5 l6 l7 l8 s0 : Int) (h : Hp) (y : Int × Hp) (hf : M_stepsIn_j54 (M_stepsIn_G d) d l0 l1 l2 l3 l4 l5 l6 l7 l8 s0 h = some y) (hK : zE g x (some .int) 0 0 157 y.2 (some (0, y.1))) : ZV g x 10 h 54 [(0, (2, l0)), (1, (0, l1)), (2, (0, l2)), (3, (0, l3)), (4, (0, l4)), (5, (0, l5)), (6, (0, l6)), (7, (0, l7)), (8, (0, l8))] [(2, s0)] := by
  unfold M_stepsIn_j54 at hf
  obtain ⟨g2, hf⟩ := gif hf
  refine z_astore X dX12_stepsIn_54 (by decide) g2 (ls' := [(9, (2, s0)), (0, (2, l0)), (1, (0, l1)), (2, (0, l2)), (3, (0, l3)), (4, (0, l4)), (5, (0, l5)), (6, (0, l6)), (7, (0, l7)), (8, (0, l8))]) rfl ?_
  refine z_aload X dX12_stepsIn_56 0 rfl ?_
  refine z_iload X dX12_stepsIn_58 9 rfl ?_
  obtain ⟨g3, hf⟩ := gif hf
  refine y_iald X dX12_stepsIn_60 g3 ?_
  refine z_bipush X dX12_stepsIn_61 kb_m9 kc_m9 ?_
  refine z_icmp_ne X dX12_stepsIn_63 rfl (fun hc63 => ?_) (fun hc63 => ?_)
  · have hf := iff' hc63 hf
    exact z_weak [9, 0] rfl (z_M_stepsIn_j116 X hd IH l8 s0 h _ hf hK)
  · have hf := ift hc63 hf
    refine z_aload X dX12_stepsIn_66 0 rfl ?_
    refine z_iload X dX12_stepsIn_68 9 rfl ?_
    refine z_iload_n X dX12_stepsIn_70 2 rfl ?_
    refine z_iconst X dX12_stepsIn_71 kc_1 ?_
    refine z_icmp_ne X dX12_stepsIn_72 rfl (fun hc72 => ?_) (fun hc72 => ?_)
    · have hf := iff' hc72 hf
      exact z_weak [1, 3, 4, 5, 6, 7, 8, 9, 0] rfl (z_M_stepsIn_j101 X hd IH l0 l2 l3 l4 l5 l6 l7 l8 s0 l8 s0 h _ hf hK)
    · have hf := ift hc72 hf
      refine z_aload_n X dX12_stepsIn_75 1 rfl ?_
      obtain ⟨g7, hf⟩ := gif hf
      refine y_get X fl_RX12_98 dX12_stepsIn_76 g7 ?_
      refine z_iload_n X dX12_stepsIn_79 3 rfl ?_
      obtain ⟨g8, hf⟩ := gif hf
      refine y_iald X dX12_stepsIn_80 g8 ?_
      refine z_if_ne X dX12_stepsIn_81 rfl (fun hc81 => ?_) (fun hc81 => ?_)
      · have hf := iff' hc81 hf
        exact z_weak [1, 3, 4, 5, 6, 7, 8, 9, 0] rfl (z_M_stepsIn_j101 X hd IH l0 l2 l3 l4 l5 l6 l7 l8 s0 l8 s0 h _ hf hK)
      · have hf := ift hc81 hf
        refine z_aload_n X dX12_stepsIn_84 1 rfl ?_
        refine z_iload_n X dX12_stepsIn_85 3 rfl ?_
        refine z_iload_n X dX12_stepsIn_86 4 rfl ?_
        refine z_iload X dX12_stepsIn_87 5 rfl ?_
        refine z_iload X dX12_stepsIn_89 6 rfl ?_
        refine z_iload X dX12_stepsIn_91 7 rfl ?_
        refine z_iload X dX12_stepsIn_93 8 rfl ?_
        obtain ⟨r95, hr95, hf⟩ := obE hf
        refine y_V1 X cv_RX12_332 dX12_stepsIn_95 g7 (IH.2.1 l0 l2 l3 l4 l5 l6 l7 h r95 hr95) (as := [(0, l2), (0, l3), (0, l4), (0, l5), (0, l6), (0, l7)]) rfl rfl (Nat.le_of_ble_eq_true rfl) z00 ?_
        refine z_goto X dX12_stepsIn_98 rfl ?_
        exact z_weak [9, 0] rfl (z_M_stepsIn_j115 X hd IH l8 s0 r95.1 l8 s0 r95.2 _ hf hK)
set_option maxHeartbeats 4000000 in
set_option maxRecDepth 100000 in
theorem cb_M_stepsIn {l : Launch} {g : GP} {d : Nat} (IH : M_stepsIn_G_IH l g d) (hd : 1 ≤ d) (l0 l1 l2 l3 l4 l5 l6 l7 : Int) (h : Hp) (y : Int × Hp) (hf : M_stepsIn_b (M_stepsIn_G d) d l0 l1 l2 l3 l4 l5 l6 l7 h = some y) : zM l yX12_stepsIn cX12_stepsIn 10 (some .int) (d + 1) 0 0 g 157 h [(2, l0), (0, l1), (0, l2), (0, l3), (0, l4), (0, l5), (0, l6), (0, l7)] 157 y.2 (some (0, y.1)) := by
  refine z_start (by decide) (Nat.le_of_ble_eq_true rfl) (fun x X hK _ _ _ hl => ?_)
  have IH : M_stepsIn_G_IH (xl x) g d := hl ▸ IH
  show ZV g x 10 h 0 [(0, (2, l0)), (1, (0, l1)), (2, (0, l2)), (3, (0, l3)), (4, (0, l4)), (5, (0, l5)), (6, (0, l6)), (7, (0, l7))] []
  unfold M_stepsIn_b at hf
  refine z_aload_n X dX12_stepsIn_0 0 rfl ?_
  refine z_iload_n X dX12_stepsIn_1 1 rfl ?_
  refine z_iload_n X dX12_stepsIn_2 2 rfl ?_
  refine z_iload_n X dX12_stepsIn_3 3 rfl ?_
  refine z_iload X dX12_stepsIn_4 4 rfl ?_
  refine z_iload X dX12_stepsIn_6 5 rfl ?_
  refine z_iload X dX12_stepsIn_8 6 rfl ?_
  obtain ⟨g1, hf⟩ := gif hf
  obtain ⟨r10, hr10, hf⟩ := obE hf
  refine y_V1 X cv_RX12_292 dX12_stepsIn_10 g1 (c_M_waysOf d l0 l1 l2 l3 l4 l5 l6 h r10 hr10) (as := [(0, l1), (0, l2), (0, l3), (0, l4), (0, l5), (0, l6)]) rfl rfl (Nat.le_of_ble_eq_true rfl) z00 ?_
  refine z_lconst0 X dX12_stepsIn_13 ?_
  refine z_l_ne X dX12_stepsIn_14 dX12_stepsIn_15 rfl (fun hc14 => ?_) (fun hc14 => ?_)
  · have hf := iff' hc14 hf
    refine z_iload_n X dX12_stepsIn_20 1 rfl ?_
    refine z_iload_n X dX12_stepsIn_21 2 rfl ?_
    refine z_aload_n X dX12_stepsIn_22 0 rfl ?_
    refine z_iload_n X dX12_stepsIn_23 3 rfl ?_
    refine z_iload X dX12_stepsIn_24 4 rfl ?_
    refine z_iload X dX12_stepsIn_26 5 rfl ?_
    refine z_iload X dX12_stepsIn_28 6 rfl ?_
    obtain ⟨r30, hr30, hf⟩ := obE hf
    refine y_V1 X cv_RX12_278 dX12_stepsIn_30 g1 (c_M_spanOf d (Nat.le_trans (by decide) hd) l0 l3 l4 l5 l6 r10.2 r30 hr30) (as := [(0, l3), (0, l4), (0, l5), (0, l6)]) rfl rfl (Nat.le_of_ble_eq_true rfl) z00 ?_
    obtain ⟨r33, hr33, hf⟩ := obE hf
    refine y_S1 X cs_RX12_281 dX12_stepsIn_33 (c_M_keyOf d (Nat.zero_le _) l1 l2 r30 r10.2 r33 hr33) (as := [(0, l1), (0, l2), (0, r30)]) rfl rfl (Nat.le_of_ble_eq_true rfl) z00 ?_
    refine z_istore X dX12_stepsIn_36 (by decide) (ls' := [(8, (0, r33)), (0, (2, l0)), (1, (0, l1)), (2, (0, l2)), (3, (0, l3)), (4, (0, l4)), (5, (0, l5)), (6, (0, l6)), (7, (0, l7))]) rfl ?_
    refine z_iload X dX12_stepsIn_38 8 rfl ?_
    refine z_if_eq X dX12_stepsIn_40 rfl (fun hc40 => ?_) (fun hc40 => ?_)
    · rw [if_pos hc40] at hf
      refine z_aload_n X dX12_stepsIn_50 1 rfl ?_
      refine y_get X fl_RX12_205 dX12_stepsIn_51 g1 ?_
      exact z_weak [1, 2, 3, 4, 5, 6, 7, 8, 0] rfl (z_M_stepsIn_j54 X hd IH l0 l1 l2 l3 l4 l5 l6 l7 r33 (r10.2 l0 42) r10.2 _ hf hK)
    · rw [if_neg hc40] at hf
      refine z_aload_n X dX12_stepsIn_43 1 rfl ?_
      refine y_get X fl_RX12_208 dX12_stepsIn_44 g1 ?_
      refine z_goto X dX12_stepsIn_47 rfl ?_
      exact z_weak [1, 2, 3, 4, 5, 6, 7, 8, 0] rfl (z_M_stepsIn_j54 X hd IH l0 l1 l2 l3 l4 l5 l6 l7 r33 (r10.2 l0 43) r10.2 _ hf hK)
  · have hf := ift hc14 hf
    refine z_iconst X dX12_stepsIn_18 kc_m1 ?_
    cases hf
    exact z_iret X hK dX12_stepsIn_19
set_option maxHeartbeats 4000000 in
set_option maxRecDepth 100000 in
theorem z_M_stepsAbove_j187 {g : GP} {x : CX} {d : Nat} (X : zX g x RX12 cX12_stepsAbove 11 (d + 1)) (hd : 1 ≤ d) (IH : M_stepsIn_G_IH (xl x) g d) (l0 l1 l2 l3 l4 l5 l6 l7 l8 l9 l10 : Int) (h : Hp) (y : (Int × Int × Hp) ⊕ (Int × Hp)) (hf : M_stepsAbove_j187 (M_stepsIn_G d) d l0 l1 l2 l3 l4 l5 l6 l7 l8 l9 l10 h = some y) (E : Int × Hp → Prop) (hx0 : ∀ e : Int × Hp, E (e) → ZV g x 11 e.2 193 [(0, (2, l0)), (1, (0, l1)), (2, (0, l2)), (3, (0, l3)), (4, (0, l4)), (5, (0, l5)), (6, (0, l6)), (7, (0, e.1)), (8, (0, l8)), (9, (0, l9))] []) (hk : z_sum (fun q : Int × Int × Hp => ZV g x 11 q.2.2 106 [(0, (2, l0)), (1, (0, l1)), (2, (0, l2)), (3, (0, l3)), (4, (0, l4)), (5, (0, l5)), (6, (0, l6)), (7, (0, q.1)), (8, (0, l8)), (9, (0, l9)), (10, (0, q.2.1))] []) E y) : ZV g x 11 h 187 [(0, (2, l0)), (1, (0, l1)), (2, (0, l2)), (3, (0, l3)), (4, (0, l4)), (5, (0, l5)), (6, (0, l6)), (7, (0, l7)), (8, (0, l8)), (9, (0, l9)), (10, (0, l10))] [] := by
  unfold M_stepsAbove_j187 at hf
  refine z_iinc X dX12_stepsAbove_187 10 rfl (by decide) (ls' := [(10, (0, w32 (l10 + 1))), (0, (2, l0)), (1, (0, l1)), (2, (0, l2)), (3, (0, l3)), (4, (0, l4)), (5, (0, l5)), (6, (0, l6)), (7, (0, l7)), (8, (0, l8)), (9, (0, l9))]) rfl ?_
  refine z_goto X dX12_stepsAbove_190 rfl ?_
  cases hf
  exact z_weak [1, 2, 3, 4, 5, 6, 7, 8, 9, 10, 0] rfl hk
set_option maxHeartbeats 4000000 in
set_option maxRecDepth 100000 in
theorem z_M_stepsAbove_L106 {g : GP} {x : CX} {d : Nat} (X : zX g x RX12 cX12_stepsAbove 11 (d + 1)) (hd : 1 ≤ d) (IH : M_stepsIn_G_IH (xl x) g d) (l0 l1 l2 l3 l4 l5 l6 l8 l9 : Int)  (E : Int × Hp → Prop) (hx0 : ∀ e : Int × Hp, E (e) → ZV g x 11 e.2 193 [(0, (2, l0)), (1, (0, l1)), (2, (0, l2)), (3, (0, l3)), (4, (0, l4)), (5, (0, l5)), (6, (0, l6)), (7, (0, e.1)), (8, (0, l8)), (9, (0, l9))] []) (l7 l10 : Int) (h : Hp) (y : (Int × Int × Hp) ⊕ (Int × Hp)) (hf : M_stepsAbove_L106 (M_stepsIn_G d) d l0 l1 l2 l3 l4 l5 l6 l8 l9 l7 l10 h = some y) (hk : z_sum (fun q : Int × Int × Hp => ZV g x 11 q.2.2 106 [(0, (2, l0)), (1, (0, l1)), (2, (0, l2)), (3, (0, l3)), (4, (0, l4)), (5, (0, l5)), (6, (0, l6)), (7, (0, q.1)), (8, (0, l8)), (9, (0, l9)), (10, (0, q.2.1))] []) E y) : ZV g x 11 h 106 [(0, (2, l0)), (1, (0, l1)), (2, (0, l2)), (3, (0, l3)), (4, (0, l4)), (5, (0, l5)), (6, (0, l6)), (7, (0, l7)), (8, (0, l8)), (9, (0, l9)), (10, (0, l10))] [] := by
  unfold M_stepsAbove_L106 at hf
  refine z_iload X dX12_stepsAbove_106 10 rfl ?_
  refine z_iload_n X dX12_stepsAbove_108 3 rfl ?_
  refine z_icmp_gt X dX12_stepsAbove_109 rfl (fun hc109 => ?_) (fun hc109 => ?_)
  · have hf := ift hc109 hf
    cases hf
    exact z_weak [0, 1, 2, 3, 4, 5, 6, 7, 8, 9] rfl (hx0 _ hk)
  · have hf := iff' hc109 hf
    refine z_aload_n X dX12_stepsAbove_112 0 rfl ?_
    refine z_iload_n X dX12_stepsAbove_113 1 rfl ?_
    refine z_iload X dX12_stepsAbove_114 8 rfl ?_
    refine z_iload X dX12_stepsAbove_116 9 rfl ?_
    refine z_iload X dX12_stepsAbove_118 10 rfl ?_
    refine z_iload_n X dX12_stepsAbove_120 2 rfl ?_
    refine z_iload_n X dX12_stepsAbove_121 3 rfl ?_
    refine z_iload X dX12_stepsAbove_122 4 rfl ?_
    refine z_iload X dX12_stepsAbove_124 5 rfl ?_
    obtain ⟨g6, hf⟩ := gif hf
    obtain ⟨r126, hr126, hf⟩ := obE hf
    refine y_V1 X cv_RX12_300 dX12_stepsAbove_126 g6 (c_M_waysAround d l0 l1 l8 l9 l10 l2 l3 l4 l5 h r126 hr126) (as := [(0, l1), (0, l8), (0, l9), (0, l10), (0, l2), (0, l3), (0, l4), (0, l5)]) rfl rfl (Nat.le_of_ble_eq_true rfl) z00 ?_
    refine z_lconst0 X dX12_stepsAbove_129 ?_
    refine z_l_ne X dX12_stepsAbove_130 dX12_stepsAbove_131 rfl (fun hc130 => ?_) (fun hc130 => ?_)
    · have hf := iff' hc130 hf
      refine z_aload_n X dX12_stepsAbove_137 0 rfl ?_
      refine z_iload X dX12_stepsAbove_138 7 rfl ?_
      refine z_iconst X dX12_stepsAbove_140 kc_1 ?_
      refine z_aload_n X dX12_stepsAbove_141 0 rfl ?_
      refine z_iconst X dX12_stepsAbove_142 kc_1 ?_
      refine z_aload_n X dX12_stepsAbove_143 0 rfl ?_
      refine z_iload X dX12_stepsAbove_144 8 rfl ?_
      obtain ⟨r146, hr146, hf⟩ := obE hf
      refine y_V1 X cv_RX12_268 dX12_stepsAbove_146 g6 (c_M_root d (Nat.zero_le _) l0 l8 r126.2 r146 hr146) (as := [(0, l8)]) rfl rfl (Nat.le_of_ble_eq_true rfl) z00 ?_
      refine z_iload_n X dX12_stepsAbove_149 2 rfl ?_
      refine z_iload_n X dX12_stepsAbove_150 3 rfl ?_
      refine z_iload X dX12_stepsAbove_151 9 rfl ?_
      refine z_iload X dX12_stepsAbove_153 10 rfl ?_
      refine z_iload X dX12_stepsAbove_155 6 rfl ?_
      obtain ⟨r157, hr157, hf⟩ := obE hf
      refine y_V1 X cv_RX12_339 dX12_stepsAbove_157 g6 (IH.1 l0 1 r146 l2 l3 l9 l10 l6 r126.2 r157 hr157) (as := [(0, 1), (0, r146), (0, l2), (0, l3), (0, l9), (0, l10), (0, l6)]) rfl rfl (Nat.le_of_ble_eq_true rfl) z00 ?_
      refine z_iadd X dX12_stepsAbove_160 ?_
      refine z_aload_n X dX12_stepsAbove_161 0 rfl ?_
      refine z_iconst X dX12_stepsAbove_162 kc_0 ?_
      refine z_iload_n X dX12_stepsAbove_163 1 rfl ?_
      refine z_iload X dX12_stepsAbove_164 9 rfl ?_
      refine z_iload X dX12_stepsAbove_166 10 rfl ?_
      refine z_iload X dX12_stepsAbove_168 4 rfl ?_
      refine z_iload X dX12_stepsAbove_170 5 rfl ?_
      refine z_iload X dX12_stepsAbove_172 6 rfl ?_
      obtain ⟨r174, hr174, hf⟩ := obE hf
      refine y_V1 X cv_RX12_339 dX12_stepsAbove_174 g6 (IH.1 l0 0 l1 l9 l10 l4 l5 l6 r157.2 r174 hr174) (as := [(0, 0), (0, l1), (0, l9), (0, l10), (0, l4), (0, l5), (0, l6)]) rfl rfl (Nat.le_of_ble_eq_true rfl) z00 ?_
      obtain ⟨r177, hr177, hf⟩ := obE hf
      refine y_S1 X cs_RX12_343 dX12_stepsAbove_177 (c_M_both d (Nat.zero_le _) (w32 (1 + r157.1)) r174.1 r174.2 r177 hr177) (as := [(0, w32 (1 + r157.1)), (0, r174.1)]) rfl rfl (Nat.le_of_ble_eq_true rfl) z00 ?_
      refine z_iload X dX12_stepsAbove_180 6 rfl ?_
      obtain ⟨r182, hr182, hf⟩ := obE hf
      refine y_V1 X cv_RX12_346 dX12_stepsAbove_182 g6 (c_M_best d (Nat.le_trans (by decide) hd) l0 l7 r177 l6 r174.2 r182 hr182) (as := [(0, l7), (0, r177), (0, l6)]) rfl rfl (Nat.le_of_ble_eq_true rfl) z00 ?_
      refine z_istore X dX12_stepsAbove_185 (by decide) (ls' := [(7, (0, r182)), (0, (2, l0)), (1, (0, l1)), (2, (0, l2)), (3, (0, l3)), (4, (0, l4)), (5, (0, l5)), (6, (0, l6)), (8, (0, l8)), (9, (0, l9)), (10, (0, l10))]) rfl ?_
      exact z_weak [1, 2, 3, 4, 5, 6, 7, 0, 8, 9, 10] rfl (z_M_stepsAbove_j187 X hd IH l0 l1 l2 l3 l4 l5 l6 r182 l8 l9 l10 r174.2 _ hf E hx0 hk)
    · have hf := ift hc130 hf
      refine z_goto X dX12_stepsAbove_134 rfl ?_
      exact (z_M_stepsAbove_j187 X hd IH l0 l1 l2 l3 l4 l5 l6 l7 l8 l9 l10 r126.2 _ hf E hx0 hk)
set_option maxHeartbeats 4000000 in
set_option maxRecDepth 100000 in
theorem z_M_stepsAbove_j104 {g : GP} {x : CX} {d : Nat} (X : zX g x RX12 cX12_stepsAbove 11 (d + 1)) (hd : 1 ≤ d) (IH : M_stepsIn_G_IH (xl x) g d) (l0 l1 l2 l3 l4 l5 l6 l7 l8 l9 s0 : Int) (h : Hp) (y : (Int × Int × Hp) ⊕ (Int × Hp)) (hf : M_stepsAbove_j104 (M_stepsIn_G d) d l0 l1 l2 l3 l4 l5 l6 l7 l8 l9 s0 h = some y) (E : Int × Hp → Prop) (hx0 : ∀ e : Int × Hp, E (e) → ZV g x 11 e.2 199 [(0, (2, l0)), (1, (0, l1)), (2, (0, l2)), (3, (0, l3)), (4, (0, l4)), (5, (0, l5)), (6, (0, l6)), (7, (0, e.1)), (8, (0, l8))] []) (hk : z_sum (fun q : Int × Int × Hp => ZV g x 11 q.2.2 74 [(0, (2, l0)), (1, (0, l1)), (2, (0, l2)), (3, (0, l3)), (4, (0, l4)), (5, (0, l5)), (6, (0, l6)), (7, (0, q.1)), (8, (0, l8)), (9, (0, q.2.1))] []) E y) : ZV g x 11 h 104 [(0, (2, l0)), (1, (0, l1)), (2, (0, l2)), (3, (0, l3)), (4, (0, l4)), (5, (0, l5)), (6, (0, l6)), (7, (0, l7)), (8, (0, l8)), (9, (0, l9))] [(0, s0)] := by
  unfold M_stepsAbove_j104 at hf
  refine z_istore X dX12_stepsAbove_104 (by decide) (ls' := [(10, (0, s0)), (0, (2, l0)), (1, (0, l1)), (2, (0, l2)), (3, (0, l3)), (4, (0, l4)), (5, (0, l5)), (6, (0, l6)), (7, (0, l7)), (8, (0, l8)), (9, (0, l9))]) rfl ?_
  obtain ⟨q106, hq106, hf⟩ := obE hf
  have hx106_0 : ∀ e193 : Int × Hp, (e193 : Int × Hp) = q106 → ZV g x 11 e193.2 193 [(0, (2, l0)), (1, (0, l1)), (2, (0, l2)), (3, (0, l3)), (4, (0, l4)), (5, (0, l5)), (6, (0, l6)), (7, (0, e193.1)), (8, (0, l8)), (9, (0, l9))] [] := by
    intro e193 hq
    subst hq
    refine z_iinc X dX12_stepsAbove_193 9 rfl (by decide) (ls' := [(9, (0, w32 (l9 + 1))), (0, (2, l0)), (1, (0, l1)), (2, (0, l2)), (3, (0, l3)), (4, (0, l4)), (5, (0, l5)), (6, (0, l6)), (7, (0, e193.1)), (8, (0, l8))]) rfl ?_
    refine z_goto X dX12_stepsAbove_196 rfl ?_
    cases hf
    exact z_weak [1, 2, 3, 4, 5, 6, 7, 8, 9, 0] rfl hk
  exact z_weak [1, 2, 3, 4, 5, 6, 7, 8, 9, 10, 0] rfl (z_loop (Z := (fun q : Int × Int × Hp => ZV g x 11 q.2.2 106 [(0, (2, l0)), (1, (0, l1)), (2, (0, l2)), (3, (0, l3)), (4, (0, l4)), (5, (0, l5)), (6, (0, l6)), (7, (0, q.1)), (8, (0, l8)), (9, (0, l9)), (10, (0, q.2.1))] [])) (E := fun q => q = q106) (fun q y hb hk => z_M_stepsAbove_L106 X hd IH l0 l1 l2 l3 l4 l5 l6 l8 l9 (fun q => q = q106) hx106_0 q.1 q.2.1 q.2.2 y hb hk) LN (l7, s0, h) q106 hq106 rfl)
set_option maxHeartbeats 4000000 in
set_option maxRecDepth 100000 in
theorem z_M_stepsAbove_j88 {g : GP} {x : CX} {d : Nat} (X : zX g x RX12 cX12_stepsAbove 11 (d + 1)) (hd : 1 ≤ d) (IH : M_stepsIn_G_IH (xl x) g d) (l0 l1 l2 l3 l4 l5 l6 l7 l8 l9 s0 s1 : Int) (h : Hp) (y : (Int × Int × Hp) ⊕ (Int × Hp)) (hf : M_stepsAbove_j88 (M_stepsIn_G d) d l0 l1 l2 l3 l4 l5 l6 l7 l8 l9 s0 s1 h = some y) (E : Int × Hp → Prop) (hx0 : ∀ e : Int × Hp, E (e) → ZV g x 11 e.2 199 [(0, (2, l0)), (1, (0, l1)), (2, (0, l2)), (3, (0, l3)), (4, (0, l4)), (5, (0, l5)), (6, (0, l6)), (7, (0, e.1)), (8, (0, l8))] []) (hk : z_sum (fun q : Int × Int × Hp => ZV g x 11 q.2.2 74 [(0, (2, l0)), (1, (0, l1)), (2, (0, l2)), (3, (0, l3)), (4, (0, l4)), (5, (0, l5)), (6, (0, l6)), (7, (0, q.1)), (8, (0, l8)), (9, (0, q.2.1))] []) E y) : ZV g x 11 h 88 [(0, (2, l0)), (1, (0, l1)), (2, (0, l2)), (3, (0, l3)), (4, (0, l4)), (5, (0, l5)), (6, (0, l6)), (7, (0, l7)), (8, (0, l8)), (9, (0, l9))] [(0, s0), (0, s1)] := by
  unfold M_stepsAbove_j88 at hf
  refine z_icmp_gt X dX12_stepsAbove_88 rfl (fun hc88 => ?_) (fun hc88 => ?_)
  · have hf := ift hc88 hf
    cases hf
    exact z_weak [0, 1, 2, 3, 4, 5, 6, 7, 8] rfl (hx0 _ hk)
  · have hf := iff' hc88 hf
    refine z_iload X dX12_stepsAbove_91 4 rfl ?_
    refine z_iconst X dX12_stepsAbove_93 kc_m1 ?_
    refine z_icmp_ne X dX12_stepsAbove_94 rfl (fun hc94 => ?_) (fun hc94 => ?_)
    · rw [if_neg hc94] at hf
      refine z_iload X dX12_stepsAbove_102 5 rfl ?_
      exact (z_M_stepsAbove_j104 X hd IH l0 l1 l2 l3 l4 l5 l6 l7 l8 l9 l5 h _ hf E hx0 hk)
    · rw [if_pos hc94] at hf
      refine z_iload X dX12_stepsAbove_97 9 rfl ?_
      refine z_goto X dX12_stepsAbove_99 rfl ?_
      exact (z_M_stepsAbove_j104 X hd IH l0 l1 l2 l3 l4 l5 l6 l7 l8 l9 l9 h _ hf E hx0 hk)
set_option maxHeartbeats 4000000 in
set_option maxRecDepth 100000 in
theorem z_M_stepsAbove_L74 {g : GP} {x : CX} {d : Nat} (X : zX g x RX12 cX12_stepsAbove 11 (d + 1)) (hd : 1 ≤ d) (IH : M_stepsIn_G_IH (xl x) g d) (l0 l1 l2 l3 l4 l5 l6 l8 : Int)  (E : Int × Hp → Prop) (hx0 : ∀ e : Int × Hp, E (e) → ZV g x 11 e.2 199 [(0, (2, l0)), (1, (0, l1)), (2, (0, l2)), (3, (0, l3)), (4, (0, l4)), (5, (0, l5)), (6, (0, l6)), (7, (0, e.1)), (8, (0, l8))] []) (l7 l9 : Int) (h : Hp) (y : (Int × Int × Hp) ⊕ (Int × Hp)) (hf : M_stepsAbove_L74 (M_stepsIn_G d) d l0 l1 l2 l3 l4 l5 l6 l8 l7 l9 h = some y) (hk : z_sum (fun q : Int × Int × Hp => ZV g x 11 q.2.2 74 [(0, (2, l0)), (1, (0, l1)), (2, (0, l2)), (3, (0, l3)), (4, (0, l4)), (5, (0, l5)), (6, (0, l6)), (7, (0, q.1)), (8, (0, l8)), (9, (0, q.2.1))] []) E y) : ZV g x 11 h 74 [(0, (2, l0)), (1, (0, l1)), (2, (0, l2)), (3, (0, l3)), (4, (0, l4)), (5, (0, l5)), (6, (0, l6)), (7, (0, l7)), (8, (0, l8)), (9, (0, l9))] [] := by
  unfold M_stepsAbove_L74 at hf
  refine z_iload X dX12_stepsAbove_74 9 rfl ?_
  refine z_iload X dX12_stepsAbove_76 4 rfl ?_
  refine z_iconst X dX12_stepsAbove_78 kc_m1 ?_
  refine z_icmp_ne X dX12_stepsAbove_79 rfl (fun hc79 => ?_) (fun hc79 => ?_)
  · rw [if_neg hc79] at hf
    refine z_iload X dX12_stepsAbove_86 4 rfl ?_
    exact (z_M_stepsAbove_j88 X hd IH l0 l1 l2 l3 l4 l5 l6 l7 l8 l9 l4 l9 h _ hf E hx0 hk)
  · rw [if_pos hc79] at hf
    refine z_iload_n X dX12_stepsAbove_82 3 rfl ?_
    refine z_goto X dX12_stepsAbove_83 rfl ?_
    exact (z_M_stepsAbove_j88 X hd IH l0 l1 l2 l3 l4 l5 l6 l7 l8 l9 l3 l9 h _ hf E hx0 hk)
set_option maxHeartbeats 4000000 in
set_option maxRecDepth 100000 in
theorem z_M_stepsAbove_j199 {g : GP} {x : CX} {d : Nat} (X : zX g x RX12 cX12_stepsAbove 11 (d + 1)) (hd : 1 ≤ d) (IH : M_stepsIn_G_IH (xl x) g d) (l0 l1 l2 l3 l4 l5 l6 l7 l8 : Int) (h : Hp) (y : (Int × Int × Hp) ⊕ (Int × Hp)) (hf : M_stepsAbove_j199 (M_stepsIn_G d) d l0 l1 l2 l3 l4 l5 l6 l7 l8 h = some y) (E : Int × Hp → Prop) (hx0 : ∀ e : Int × Hp, E (e) → ZV g x 11 e.2 205 [(7, (0, e.1))] []) (hk : z_sum (fun q : Int × Int × Hp => ZV g x 11 q.2.2 33 [(0, (2, l0)), (1, (0, l1)), (2, (0, l2)), (3, (0, l3)), (4, (0, l4)), (5, (0, l5)), (6, (0, l6)), (7, (0, q.1)), (8, (0, q.2.1))] []) E y) : ZV g x 11 h 199 [(0, (2, l0)), (1, (0, l1)), (2, (0, l2)), (3, (0, l3)), (4, (0, l4)), (5, (0, l5)), (6, (0, l6)), (7, (0, l7)), (8, (0, l8))] [] := by
  unfold M_stepsAbove_j199 at hf
  refine z_iinc X dX12_stepsAbove_199 8 rfl (by decide) (ls' := [(8, (0, w32 (l8 + 1))), (0, (2, l0)), (1, (0, l1)), (2, (0, l2)), (3, (0, l3)), (4, (0, l4)), (5, (0, l5)), (6, (0, l6)), (7, (0, l7))]) rfl ?_
  refine z_goto X dX12_stepsAbove_202 rfl ?_
  cases hf
  exact z_weak [1, 2, 3, 4, 5, 6, 7, 8, 0] rfl hk
