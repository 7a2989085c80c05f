set_option maxHeartbeats 4000000 in
set_option maxRecDepth 100000 in
theorem cb_M_lays {l : Launch} {g : GP} {d : Nat} (IH : M_lays_G_IH l g d) (hd : 1 ≤ d) (l0 l1 l2 l3 l4 l5 l6 l7 l8 : Int) (h : Hp) (y : Hp) (hf : M_lays_b (M_lays_G d) d l0 l1 l2 l3 l4 l5 l6 l7 l8 h = some y) : zM l yX12_lays cX12_lays 10 none (d + 1) 0 0 g 157 h [(2, l0), (0, l1), (0, l2), (0, l3), (0, l4), (0, l5), (0, l6), (0, l7), (1, l8)] 157 y none := by
  refine z_start (by decide) (Nat.le_of_ble_eq_true rfl) (fun x X hK _ _ _ hl => ?_)
  have IH : M_lays_G_IH (xl x) g d := hl ▸ IH
  show ZV g x 10 h 0 [(0, (2, l0)), (1, (0, l1)), (2, (0, l2)), (3, (0, l3)), (4, (0, l4)), (5, (0, l5)), (6, (0, l6)), (7, (0, l7)), (8, (1, l8))] []
  unfold M_lays_b at hf
  refine z_iload_n X dX12_lays_0 2 rfl ?_
  refine z_iconst X dX12_lays_1 kc_1 ?_
  refine z_icmp_ne X dX12_lays_2 rfl (fun hc2 => ?_) (fun hc2 => ?_)
  · have hf := iff' hc2 hf
    exact z_weak [0, 1, 3, 4, 5, 6, 7, 8] rfl (z_M_lays_j33 X hd IH l0 l1 l3 l4 l5 l6 l7 l8 h _ hf hK)
  · have hf := ift hc2 hf
    refine z_aload_n X dX12_lays_5 0 rfl ?_
    obtain ⟨g2, hf⟩ := gif hf
    refine y_get X fl_RX12_98 dX12_lays_6 g2 ?_
    refine z_iload_n X dX12_lays_9 3 rfl ?_
    obtain ⟨g3, hf⟩ := gif hf
    refine y_iald X dX12_lays_10 g3 ?_
    refine z_if_ne X dX12_lays_11 rfl (fun hc11 => ?_) (fun hc11 => ?_)
    · have hf := iff' hc11 hf
      exact z_weak [0, 1, 3, 4, 5, 6, 7, 8] rfl (z_M_lays_j33 X hd IH l0 l1 l3 l4 l5 l6 l7 l8 h _ hf hK)
    · have hf := ift hc11 hf
      refine z_aload_n X dX12_lays_14 0 rfl ?_
      refine z_iload_n X dX12_lays_15 1 rfl ?_
      refine z_iload_n X dX12_lays_16 3 rfl ?_
      refine z_iload X dX12_lays_17 4 rfl ?_
      refine z_iload X dX12_lays_19 5 rfl ?_
      refine z_iload X dX12_lays_21 6 rfl ?_
      refine z_iload X dX12_lays_23 7 rfl ?_
      refine z_lload X dX12_lays_25 8 rfl ?_
      obtain ⟨r27, hr27, hf⟩ := obE hf
      refine y_V0 X cv_RX12_453 dX12_lays_27 g2 (IH.2.1 l0 l1 l3 l4 l5 l6 l7 l8 h r27 hr27) (as := [(0, l1), (0, l3), (0, l4), (0, l5), (0, l6), (0, l7), (1, l8)]) rfl rfl (Nat.le_of_ble_eq_true rfl) z00 ?_
      refine z_goto X dX12_lays_30 rfl ?_
      cases hf
      exact z_vret X hK dX12_lays_49
set_option maxHeartbeats 4000000 in
set_option maxRecDepth 100000 in
theorem z_M_laysAbove_L127 {g : GP} {x : CX} {d : Nat} (X : zX g x RX12 cX12_laysAbove 19 (d + 1)) (hd : 1 ≤ d) (IH : M_lays_G_IH (xl x) g d) (l0 l1 l2 l3 l4 l5 l6 l11 l12 : Int)  (E : (Int × Int × Hp) ⊕ (Int × Hp) → Prop) (hx0 : ∀ e : Int × Int × Hp, E (.inl e) → ZV g x 19 e.2.2 162 [(0, (2, l0)), (1, (0, l1)), (2, (0, l2)), (3, (0, l3)), (4, (0, l4)), (5, (0, l5)), (6, (0, l6)), (9, (1, e.1)), (11, (0, l11)), (12, (0, l12)), (13, (0, e.2.1))] []) (hx1 : ∀ e : Int × Hp, E (.inr e) → ZV g x 19 e.2 258 [(0, (2, l0)), (1, (0, l1)), (2, (0, l2)), (3, (0, l3)), (4, (0, l4)), (5, (0, l5)), (6, (0, l6)), (9, (1, e.1)), (11, (0, l11)), (12, (0, l12))] []) (l9 l13 : Int) (h : Hp) (y : (Int × Int × Hp) ⊕ ((Int × Int × Hp) ⊕ (Int × Hp))) (hf : M_laysAbove_L127 (M_lays_G d) d l0 l1 l2 l3 l4 l5 l6 l11 l12 l9 l13 h = some y) (hk : z_sum (fun q : Int × Int × Hp => ZV g x 19 q.2.2 127 [(0, (2, l0)), (1, (0, l1)), (2, (0, l2)), (3, (0, l3)), (4, (0, l4)), (5, (0, l5)), (6, (0, l6)), (9, (1, q.1)), (11, (0, l11)), (12, (0, l12)), (13, (0, q.2.1))] []) E y) : ZV g x 19 h 127 [(0, (2, l0)), (1, (0, l1)), (2, (0, l2)), (3, (0, l3)), (4, (0, l4)), (5, (0, l5)), (6, (0, l6)), (9, (1, l9)), (11, (0, l11)), (12, (0, l12)), (13, (0, l13))] [] := by
  unfold M_laysAbove_L127 at hf
  refine z_iload X dX12_laysAbove_127 10 rfl ?_
  refine z_iload X dX12_laysAbove_129 4 rfl ?_
  refine z_icmp_gt X dX12_laysAbove_131 rfl (fun hc131 => ?_) (fun hc131 => ?_)
  · have hf := ift hc131 hf
    cases hf
    exact z_weak [0, 1, 2, 3, 4, 5, 6, 7, 8, 9] rfl (hx1 _ hk)
  · have hf := iff' hc131 hf
    refine z_aload_n X dX12_laysAbove_134 0 rfl ?_
    refine z_iload_n X dX12_laysAbove_135 2 rfl ?_
    refine z_iload X dX12_laysAbove_136 8 rfl ?_
    refine z_iload X dX12_laysAbove_138 9 rfl ?_
    refine z_iload X dX12_laysAbove_140 10 rfl ?_
    refine z_iload_n X dX12_laysAbove_142 3 rfl ?_
    refine z_iload X dX12_laysAbove_143 4 rfl ?_
    refine z_iload X dX12_laysAbove_145 5 rfl ?_
    refine z_iload X dX12_laysAbove_147 6 rfl ?_
    obtain ⟨g5, hf⟩ := gif hf
    obtain ⟨r149, hr149, hf⟩ := obE hf
    refine y_V1 X cv_RX12_300 dX12_laysAbove_149 g5 (c_M_waysAround d l0 l2 l11 l12 l13 l3 l4 l5 l6 h r149 hr149) (as := [(0, l2), (0, l11), (0, l12), (0, l13), (0, l3), (0, l4), (0, l5), (0, l6)]) rfl rfl (Nat.le_of_ble_eq_true rfl) z00 ?_
    refine z_lstore X dX12_laysAbove_152 (by decide) (ls' := [(14, (1, r149.1)), (0, (2, l0)), (1, (0, l1)), (2, (0, l2)), (3, (0, l3)), (4, (0, l4)), (5, (0, l5)), (6, (0, l6)), (9, (1, l9)), (11, (0, l11)), (12, (0, l12)), (13, (0, l13))]) rfl ?_
    refine z_lload X dX12_laysAbove_154 8 rfl ?_
    refine z_lload X dX12_laysAbove_156 0 rfl ?_
    refine z_l_ge X dX12_laysAbove_158 dX12_laysAbove_159 rfl (fun hc158 => ?_) (fun hc158 => ?_)
    · have hf := ift hc158 hf
      refine z_lload X dX12_laysAbove_245 8 rfl ?_
      refine z_lload X dX12_laysAbove_247 0 rfl ?_
      refine z_lsub X dX12_laysAbove_249 ?_
      refine z_lstore X dX12_laysAbove_250 (by decide) (ls' := [(9, (1, w64 (l9 - r149.1))), (14, (1, r149.1)), (0, (2, l0)), (1, (0, l1)), (2, (0, l2)), (3, (0, l3)), (4, (0, l4)), (5, (0, l5)), (6, (0, l6)), (11, (0, l11)), (12, (0, l12)), (13, (0, l13))]) rfl ?_
      refine z_iinc X dX12_laysAbove_252 11 rfl (by decide) (ls' := [(13, (0, w32 (l13 + 1))), (9, (1, w64 (l9 - r149.1))), (14, (1, r149.1)), (0, (2, l0)), (1, (0, l1)), (2, (0, l2)), (3, (0, l3)), (4, (0, l4)), (5, (0, l5)), (6, (0, l6)), (11, (0, l11)), (12, (0, l12))]) rfl ?_
      refine z_goto X dX12_laysAbove_255 rfl ?_
      cases hf
      exact z_weak [3, 4, 5, 6, 7, 8, 9, 1, 10, 11, 0] rfl hk
    · have hf := iff' hc158 hf
      cases hf
      exact z_weak [1, 2, 3, 4, 5, 6, 7, 8, 9, 10, 11] rfl (hx0 _ hk)
set_option maxHeartbeats 4000000 in
set_option maxRecDepth 100000 in
theorem z_M_laysAbove_j125 {g : GP} {x : CX} {d : Nat} (X : zX g x RX12 cX12_laysAbove 19 (d + 1)) (hd : 1 ≤ d) (IH : M_lays_G_IH (xl x) g d) (l0 l1 l2 l3 l4 l5 l6 l9 l11 l12 s0 : Int) (h : Hp) (y : (Int × Int × Hp) ⊕ ((Int × Int × Int × Hp) ⊕ (Int × Hp))) (hf : M_laysAbove_j125 (M_lays_G d) d l0 l1 l2 l3 l4 l5 l6 l9 l11 l12 s0 h = some y) (E : (Int × Int × Int × Hp) ⊕ (Int × Hp) → Prop) (hx0 : ∀ e : Int × Int × Int × Hp, E (.inl e) → ZV g x 19 e.2.2.2 162 [(0, (2, l0)), (1, (0, l1)), (2, (0, l2)), (3, (0, l3)), (4, (0, l4)), (5, (0, l5)), (6, (0, l6)), (9, (1, e.1)), (11, (0, l11)), (12, (0, e.2.1)), (13, (0, e.2.2.1))] []) (hx1 : ∀ e : Int × Hp, E (.inr e) → ZV g x 19 e.2 264 [(0, (2, l0)), (1, (0, l1)), (2, (0, l2)), (3, (0, l3)), (4, (0, l4)), (5, (0, l5)), (6, (0, l6)), (9, (1, e.1)), (11, (0, l11))] []) (hk : z_sum (fun q : Int × Int × Hp => ZV g x 19 q.2.2 94 [(0, (2, l0)), (1, (0, l1)), (2, (0, l2)), (3, (0, l3)), (4, (0, l4)), (5, (0, l5)), (6, (0, l6)), (9, (1, q.1)), (11, (0, l11)), (12, (0, q.2.1))] []) E y) : ZV g x 19 h 125 [(0, (2, l0)), (1, (0, l1)), (2, (0, l2)), (3, (0, l3)), (4, (0, l4)), (5, (0, l5)), (6, (0, l6)), (9, (1, l9)), (11, (0, l11)), (12, (0, l12))] [(0, s0)] := by
  unfold M_laysAbove_j125 at hf
  refine z_istore X dX12_laysAbove_125 (by decide) (ls' := [(13, (0, s0)), (0, (2, l0)), (1, (0, l1)), (2, (0, l2)), (3, (0, l3)), (4, (0, l4)), (5, (0, l5)), (6, (0, l6)), (9, (1, l9)), (11, (0, l11)), (12, (0, l12))]) rfl ?_
  obtain ⟨q127, hq127, hf⟩ := obE hf
  have hx127_0 : ∀ e162 : Int × Int × Hp, (.inl e162 : (Int × Int × Hp) ⊕ (Int × Hp)) = q127 → ZV g x 19 e162.2.2 162 [(0, (2, l0)), (1, (0, l1)), (2, (0, l2)), (3, (0, l3)), (4, (0, l4)), (5, (0, l5)), (6, (0, l6)), (9, (1, e162.1)), (11, (0, l11)), (12, (0, l12)), (13, (0, e162.2.1))] [] := by
    intro e162 hq
    subst hq
    dsimp only at hf
    cases hf
    exact (hx0 _ hk)
  have hx127_1 : ∀ e258 : Int × Hp, (.inr e258 : (Int × Int × Hp) ⊕ (Int × Hp)) = q127 → ZV g x 19 e258.2 258 [(0, (2, l0)), (1, (0, l1)), (2, (0, l2)), (3, (0, l3)), (4, (0, l4)), (5, (0, l5)), (6, (0, l6)), (9, (1, e258.1)), (11, (0, l11)), (12, (0, l12))] [] := by
    intro e258 hq
    subst hq
    dsimp only at hf
    refine z_iinc X dX12_laysAbove_258 9 rfl (by decide) (ls' := [(12, (0, w32 (l12 + 1))), (0, (2, l0)), (1, (0, l1)), (2, (0, l2)), (3, (0, l3)), (4, (0, l4)), (5, (0, l5)), (6, (0, l6)), (9, (1, e258.1)), (11, (0, l11))]) rfl ?_
    refine z_goto X dX12_laysAbove_261 rfl ?_
    cases hf
    exact z_weak [1, 2, 3, 4, 5, 6, 7, 8, 9, 0] rfl hk
  exact z_weak [1, 2, 3, 4, 5, 6, 7, 8, 9, 10, 0] rfl (z_loop (Z := (fun q : Int × Int × Hp => ZV g x 19 q.2.2 127 [(0, (2, l0)), (1, (0, l1)), (2, (0, l2)), (3, (0, l3)), (4, (0, l4)), (5, (0, l5)), (6, (0, l6)), (9, (1, q.1)), (11, (0, l11)), (12, (0, l12)), (13, (0, q.2.1))] [])) (E := fun q => q = q127) (fun q y hb hk => z_M_laysAbove_L127 X hd IH l0 l1 l2 l3 l4 l5 l6 l11 l12 (fun q => q = q127) hx127_0 hx127_1 q.1 q.2.1 q.2.2 y hb hk) LN (l9, s0, h) q127 hq127 rfl)
set_option maxHeartbeats 4000000 in
set_option maxRecDepth 100000 in
theorem z_M_laysAbove_j109 {g : GP} {x : CX} {d : Nat} (X : zX g x RX12 cX12_laysAbove 19 (d + 1)) (hd : 1 ≤ d) (IH : M_lays_G_IH (xl x) g d) (l0 l1 l2 l3 l4 l5 l6 l9 l11 l12 s0 s1 : Int) (h : Hp) (y : (Int × Int × Hp) ⊕ ((Int × Int × Int × Hp) ⊕ (Int × Hp))) (hf : M_laysAbove_j109 (M_lays_G d) d l0 l1 l2 l3 l4 l5 l6 l9 l11 l12 s0 s1 h = some y) (E : (Int × Int × Int × Hp) ⊕ (Int × Hp) → Prop) (hx0 : ∀ e : Int × Int × Int × Hp, E (.inl e) → ZV g x 19 e.2.2.2 162 [(0, (2, l0)), (1, (0, l1)), (2, (0, l2)), (3, (0, l3)), (4, (0, l4)), (5, (0, l5)), (6, (0, l6)), (9, (1, e.1)), (11, (0, l11)), (12, (0, e.2.1)), (13, (0, e.2.2.1))] []) (hx1 : ∀ e : Int × Hp, E (.inr e) → ZV g x 19 e.2 264 [(0, (2, l0)), (1, (0, l1)), (2, (0, l2)), (3, (0, l3)), (4, (0, l4)), (5, (0, l5)), (6, (0, l6)), (9, (1, e.1)), (11, (0, l11))] []) (hk : z_sum (fun q : Int × Int × Hp => ZV g x 19 q.2.2 94 [(0, (2, l0)), (1, (0, l1)), (2, (0, l2)), (3, (0, l3)), (4, (0, l4)), (5, (0, l5)), (6, (0, l6)), (9, (1, q.1)), (11, (0, l11)), (12, (0, q.2.1))] []) E y) : ZV g x 19 h 109 [(0, (2, l0)), (1, (0, l1)), (2, (0, l2)), (3, (0, l3)), (4, (0, l4)), (5, (0, l5)), (6, (0, l6)), (9, (1, l9)), (11, (0, l11)), (12, (0, l12))] [(0, s0), (0, s1)] := by
  unfold M_laysAbove_j109 at hf
  refine z_icmp_gt X dX12_laysAbove_109 rfl (fun hc109 => ?_) (fun hc109 => ?_)
  · have hf := ift hc109 hf
    cases hf
    exact z_weak [0, 1, 2, 3, 4, 5, 6, 7, 8] rfl (hx1 _ hk)
  · have hf := iff' hc109 hf
    refine z_iload X dX12_laysAbove_112 5 rfl ?_
    refine z_iconst X dX12_laysAbove_114 kc_m1 ?_
    refine z_icmp_ne X dX12_laysAbove_115 rfl (fun hc115 => ?_) (fun hc115 => ?_)
    · rw [if_neg hc115] at hf
      refine z_iload X dX12_laysAbove_123 6 rfl ?_
      exact (z_M_laysAbove_j125 X hd IH l0 l1 l2 l3 l4 l5 l6 l9 l11 l12 l6 h _ hf E hx0 hx1 hk)
    · rw [if_pos hc115] at hf
      refine z_iload X dX12_laysAbove_118 9 rfl ?_
      refine z_goto X dX12_laysAbove_120 rfl ?_
      exact (z_M_laysAbove_j125 X hd IH l0 l1 l2 l3 l4 l5 l6 l9 l11 l12 l12 h _ hf E hx0 hx1 hk)
set_option maxHeartbeats 4000000 in
set_option maxRecDepth 100000 in
theorem z_M_laysAbove_L94 {g : GP} {x : CX} {d : Nat} (X : zX g x RX12 cX12_laysAbove 19 (d + 1)) (hd : 1 ≤ d) (IH : M_lays_G_IH (xl x) g d) (l0 l1 l2 l3 l4 l5 l6 l11 : Int)  (E : (Int × Int × Int × Hp) ⊕ (Int × Hp) → Prop) (hx0 : ∀ e : Int × Int × Int × Hp, E (.inl e) → ZV g x 19 e.2.2.2 162 [(0, (2, l0)), (1, (0, l1)), (2, (0, l2)), (3, (0, l3)), (4, (0, l4)), (5, (0, l5)), (6, (0, l6)), (9, (1, e.1)), (11, (0, l11)), (12, (0, e.2.1)), (13, (0, e.2.2.1))] []) (hx1 : ∀ e : Int × Hp, E (.inr e) → ZV g x 19 e.2 264 [(0, (2, l0)), (1, (0, l1)), (2, (0, l2)), (3, (0, l3)), (4, (0, l4)), (5, (0, l5)), (6, (0, l6)), (9, (1, e.1)), (11, (0, l11))] []) (l9 l12 : Int) (h : Hp) (y : (Int × Int × Hp) ⊕ ((Int × Int × Int × Hp) ⊕ (Int × Hp))) (hf : M_laysAbove_L94 (M_lays_G d) d l0 l1 l2 l3 l4 l5 l6 l11 l9 l12 h = some y) (hk : z_sum (fun q : Int × Int × Hp => ZV g x 19 q.2.2 94 [(0, (2, l0)), (1, (0, l1)), (2, (0, l2)), (3, (0, l3)), (4, (0, l4)), (5, (0, l5)), (6, (0, l6)), (9, (1, q.1)), (11, (0, l11)), (12, (0, q.2.1))] []) E y) : ZV g x 19 h 94 [(0, (2, l0)), (1, (0, l1)), (2, (0, l2)), (3, (0, l3)), (4, (0, l4)), (5, (0, l5)), (6, (0, l6)), (9, (1, l9)), (11, (0, l11)), (12, (0, l12))] [] := by
  unfold M_laysAbove_L94 at hf
  refine z_iload X dX12_laysAbove_94 9 rfl ?_
  refine z_iload X dX12_laysAbove_96 5 rfl ?_
  refine z_iconst X dX12_laysAbove_98 kc_m1 ?_
  refine z_icmp_ne X dX12_laysAbove_99 rfl (fun hc99 => ?_) (fun hc99 => ?_)
  · rw [if_neg hc99] at hf
    refine z_iload X dX12_laysAbove_107 5 rfl ?_
    exact (z_M_laysAbove_j109 X hd IH l0 l1 l2 l3 l4 l5 l6 l9 l11 l12 l5 l12 h _ hf E hx0 hx1 hk)
  · rw [if_pos hc99] at hf
    refine z_iload X dX12_laysAbove_102 4 rfl ?_
    refine z_goto X dX12_laysAbove_104 rfl ?_
    exact (z_M_laysAbove_j109 X hd IH l0 l1 l2 l3 l4 l5 l6 l9 l11 l12 l4 l12 h _ hf E hx0 hx1 hk)
set_option maxHeartbeats 4000000 in
set_option maxRecDepth 100000 in
theorem z_M_laysAbove_j264 {g : GP} {x : CX} {d : Nat} (X : zX g x RX12 cX12_laysAbove 19 (d + 1)) (hd : 1 ≤ d) (IH : M_lays_G_IH (xl x) g d) (l0 l1 l2 l3 l4 l5 l6 l9 l11 : Int) (h : Hp) (y : (Int × Int × Hp) ⊕ ((Int × Int × Int × Int × Hp) ⊕ (Hp))) (hf : M_laysAbove_j264 (M_lays_G d) d l0 l1 l2 l3 l4 l5 l6 l9 l11 h = some y) (E : (Int × Int × Int × Int × Hp) ⊕ (Hp) → Prop) (hx0 : ∀ e : Int × Int × Int × Int × Hp, E (.inl e) → ZV g x 19 e.2.2.2.2 162 [(0, (2, l0)), (1, (0, l1)), (2, (0, l2)), (3, (0, l3)), (4, (0, l4)), (5, (0, l5)), (6, (0, l6)), (9, (1, e.1)), (11, (0, e.2.1)), (12, (0, e.2.2.1)), (13, (0, e.2.2.2.1))] []) (hx1 : ∀ e : Hp, E (.inr e) → ZV g x 19 e 270 [] []) (hk : z_sum (fun q : Int × Int × Hp => ZV g x 19 q.2.2 63 [(0, (2, l0)), (1, (0, l1)), (2, (0, l2)), (3, (0, l3)), (4, (0, l4)), (5, (0, l5)), (6, (0, l6)), (9, (1, q.1)), (11, (0, q.2.1))] []) E y) : ZV g x 19 h 264 [(0, (2, l0)), (1, (0, l1)), (2, (0, l2)), (3, (0, l3)), (4, (0, l4)), (5, (0, l5)), (6, (0, l6)), (9, (1, l9)), (11, (0, l11))] [] := by
  unfold M_laysAbove_j264 at hf
  refine z_iinc X dX12_laysAbove_264 8 rfl (by decide) (ls' := [(11, (0, w32 (l11 + 1))), (0, (2, l0)), (1, (0, l1)), (2, (0, l2)), (3, (0, l3)), (4, (0, l4)), (5, (0, l5)), (6, (0, l6)), (9, (1, l9))]) rfl ?_
  refine z_goto X dX12_laysAbove_267 rfl ?_
  cases hf
  exact z_weak [1, 2, 3, 4, 5, 6, 7, 8, 0] rfl hk
set_option maxHeartbeats 4000000 in
set_option maxRecDepth 100000 in
theorem z_M_laysAbove_L63 {g : GP} {x : CX} {d : Nat} (X : zX g x RX12 cX12_laysAbove 19 (d + 1)) (hd : 1 ≤ d) (IH : M_lays_G_IH (xl x) g d) (l0 l1 l2 l3 l4 l5 l6 : Int)  (E : (Int × Int × Int × Int × Hp) ⊕ (Hp) → Prop) (hx0 : ∀ e : Int × Int × Int × Int × Hp, E (.inl e) → ZV g x 19 e.2.2.2.2 162 [(0, (2, l0)), (1, (0, l1)), (2, (0, l2)), (3, (0, l3)), (4, (0, l4)), (5, (0, l5)), (6, (0, l6)), (9, (1, e.1)), (11, (0, e.2.1)), (12, (0, e.2.2.1)), (13, (0, e.2.2.2.1))] []) (hx1 : ∀ e : Hp, E (.inr e) → ZV g x 19 e 270 [] []) (l9 l11 : Int) (h : Hp) (y : (Int × Int × Hp) ⊕ ((Int × Int × Int × Int × Hp) ⊕ (Hp))) (hf : M_laysAbove_L63 (M_lays_G d) d l0 l1 l2 l3 l4 l5 l6 l9 l11 h = some y) (hk : z_sum (fun q : Int × Int × Hp => ZV g x 19 q.2.2 63 [(0, (2, l0)), (1, (0, l1)), (2, (0, l2)), (3, (0, l3)), (4, (0, l4)), (5, (0, l5)), (6, (0, l6)), (9, (1, q.1)), (11, (0, q.2.1))] []) E y) : ZV g x 19 h 63 [(0, (2, l0)), (1, (0, l1)), (2, (0, l2)), (3, (0, l3)), (4, (0, l4)), (5, (0, l5)), (6, (0, l6)), (9, (1, l9)), (11, (0, l11))] [] := by
  unfold M_laysAbove_L63 at hf
  refine z_iload X dX12_laysAbove_63 8 rfl ?_
  refine z_aload_n X dX12_laysAbove_65 0 rfl ?_
  obtain ⟨g3, hf⟩ := gif hf
  refine y_get X fl_RX12_11 dX12_laysAbove_66 g3 ?_
  refine z_icmp_ge X dX12_laysAbove_69 rfl (fun hc69 => ?_) (fun hc69 => ?_)
  · have hf := ift hc69 hf
    cases hf
    exact z_weak [] rfl (hx1 _ hk)
  · have hf := iff' hc69 hf
    refine z_aload_n X dX12_laysAbove_72 0 rfl ?_
    refine z_iload X dX12_laysAbove_73 8 rfl ?_
    refine z_aload_n X dX12_laysAbove_75 0 rfl ?_
    refine y_get X fl_RX12_101 dX12_laysAbove_76 g3 ?_
    refine z_iload_n X dX12_laysAbove_79 2 rfl ?_
    obtain ⟨g4, hf⟩ := gif hf
    refine y_iald X dX12_laysAbove_80 g4 ?_
    refine z_iconst X dX12_laysAbove_81 kc_1 ?_
    obtain ⟨r82, hr82, hf⟩ := obE hf
    refine y_V1 X cv_RX12_296 dX12_laysAbove_82 g3 (c_M_mayGo d (Nat.le_trans (by decide) hd) l0 l11 (h (h l0 6) l2) 1 h r82 hr82) (as := [(0, l11), (0, h (h l0 6) l2), (0, 1)]) rfl rfl (Nat.le_of_ble_eq_true rfl) z00 ?_
    refine z_if_ne X dX12_laysAbove_85 rfl (fun hc85 => ?_) (fun hc85 => ?_)
    · have hf := iff' hc85 hf
      refine z_iload_n X dX12_laysAbove_91 3 rfl ?_
      refine z_istore X dX12_laysAbove_92 (by decide) (ls' := [(12, (0, l3)), (0, (2, l0)), (1, (0, l1)), (2, (0, l2)), (3, (0, l3)), (4, (0, l4)), (5, (0, l5)), (6, (0, l6)), (9, (1, l9)), (11, (0, l11))]) rfl ?_
      obtain ⟨q94, hq94, hf⟩ := obE hf
      have hx94_0 : ∀ e162 : Int × Int × Int × Hp, (.inl e162 : (Int × Int × Int × Hp) ⊕ (Int × Hp)) = q94 → ZV g x 19 e162.2.2.2 162 [(0, (2, l0)), (1, (0, l1)), (2, (0, l2)), (3, (0, l3)), (4, (0, l4)), (5, (0, l5)), (6, (0, l6)), (9, (1, e162.1)), (11, (0, l11)), (12, (0, e162.2.1)), (13, (0, e162.2.2.1))] [] := by
        intro e162 hq
        subst hq
        dsimp only at hf
        cases hf
        exact (hx0 _ hk)
      have hx94_1 : ∀ e264 : Int × Hp, (.inr e264 : (Int × Int × Int × Hp) ⊕ (Int × Hp)) = q94 → ZV g x 19 e264.2 264 [(0, (2, l0)), (1, (0, l1)), (2, (0, l2)), (3, (0, l3)), (4, (0, l4)), (5, (0, l5)), (6, (0, l6)), (9, (1, e264.1)), (11, (0, l11))] [] := by
        intro e264 hq
        subst hq
        dsimp only at hf
        exact (z_M_laysAbove_j264 X hd IH l0 l1 l2 l3 l4 l5 l6 e264.1 l11 e264.2 _ hf E hx0 hx1 hk)
      exact z_weak [1, 2, 3, 4, 5, 6, 7, 8, 9, 0] rfl (z_loop (Z := (fun q : Int × Int × Hp => ZV g x 19 q.2.2 94 [(0, (2, l0)), (1, (0, l1)), (2, (0, l2)), (3, (0, l3)), (4, (0, l4)), (5, (0, l5)), (6, (0, l6)), (9, (1, q.1)), (11, (0, l11)), (12, (0, q.2.1))] [])) (E := fun q => q = q94) (fun q y hb hk => z_M_laysAbove_L94 X hd IH l0 l1 l2 l3 l4 l5 l6 l11 (fun q => q = q94) hx94_0 hx94_1 q.1 q.2.1 q.2.2 y hb hk) LN (l9, l3, h) q94 hq94 rfl)
    · have hf := ift hc85 hf
      refine z_goto X dX12_laysAbove_88 rfl ?_
      exact (z_M_laysAbove_j264 X hd IH l0 l1 l2 l3 l4 l5 l6 l9 l11 h _ hf E hx0 hx1 hk)
set_option maxHeartbeats 4000000 in
set_option maxRecDepth 100000 in
theorem z_M_laysAbove_j60 {g : GP} {x : CX} {d : Nat} (X : zX g x RX12 cX12_laysAbove 19 (d + 1)) (hd : 1 ≤ d) (IH : M_lays_G_IH (xl x) g d) (l0 l1 l2 l3 l4 l5 l6 l9 : Int) (h : Hp) (y : Hp) (hf : M_laysAbove_j60 (M_lays_G d) d l0 l1 l2 l3 l4 l5 l6 l9 h = some y) (hK : zE g x none 0 0 157 y none) : ZV g x 19 h 60 [(0, (2, l0)), (1, (0, l1)), (2, (0, l2)), (3, (0, l3)), (4, (0, l4)), (5, (0, l5)), (6, (0, l6)), (9, (1, l9))] [] := by
  unfold M_laysAbove_j60 at hf
  refine z_iconst X dX12_laysAbove_60 kc_0 ?_
  refine z_istore X dX12_laysAbove_61 (by decide) (ls' := [(11, (0, 0)), (0, (2, l0)), (1, (0, l1)), (2, (0, l2)), (3, (0, l3)), (4, (0, l4)), (5, (0, l5)), (6, (0, l6)), (9, (1, l9))]) rfl ?_
  obtain ⟨q63, hq63, hf⟩ := obE hf
  have hx63_0 : ∀ e162 : Int × Int × Int × Int × Hp, (.inl e162 : (Int × Int × Int × Int × Hp) ⊕ (Hp)) = q63 → ZV g x 19 e162.2.2.2.2 162 [(0, (2, l0)), (1, (0, l1)), (2, (0, l2)), (3, (0, l3)), (4, (0, l4)), (5, (0, l5)), (6, (0, l6)), (9, (1, e162.1)), (11, (0, e162.2.1)), (12, (0, e162.2.2.1)), (13, (0, e162.2.2.2.1))] [] := by
    intro e162 hq
    subst hq
    dsimp only at hf
    refine z_aload_n X dX12_laysAbove_162 0 rfl ?_
    refine z_iconst X dX12_laysAbove_163 kc_0 ?_
    refine z_iload_n X dX12_laysAbove_164 2 rfl ?_
    refine z_iload X dX12_laysAbove_165 9 rfl ?_
    refine z_iload X dX12_laysAbove_167 10 rfl ?_
    refine z_iload X dX12_laysAbove_169 5 rfl ?_
    refine z_iload X dX12_laysAbove_171 6 rfl ?_
    obtain ⟨g6, hf⟩ := gif hf
    obtain ⟨r173, hr173, hf⟩ := obE hf
    refine y_V1 X cv_RX12_292 dX12_laysAbove_173 g6 (c_M_waysOf d l0 0 l2 e162.2.2.1 e162.2.2.2.1 l5 l6 e162.2.2.2.2 r173 hr173) (as := [(0, 0), (0, l2), (0, e162.2.2.1), (0, e162.2.2.2.1), (0, l5), (0, l6)]) rfl rfl (Nat.le_of_ble_eq_true rfl) z00 ?_
    refine z_lstore X dX12_laysAbove_176 (by decide) (ls' := [(16, (1, r173.1)), (0, (2, l0)), (1, (0, l1)), (2, (0, l2)), (3, (0, l3)), (4, (0, l4)), (5, (0, l5)), (6, (0, l6)), (9, (1, e162.1)), (11, (0, e162.2.1)), (12, (0, e162.2.2.1)), (13, (0, e162.2.2.2.1))]) rfl ?_
    refine z_aload_n X dX12_laysAbove_178 1 rfl ?_
    refine z_iload X dX12_laysAbove_179 9 rfl ?_
    refine z_iload_n X dX12_laysAbove_181 2 rfl ?_
    refine z_iload_n X dX12_laysAbove_182 3 rfl ?_
    refine z_aload_n X dX12_laysAbove_183 1 rfl ?_
    refine y_get X fl_RX12_7 dX12_laysAbove_184 g6 ?_
    refine z_aload_n X dX12_laysAbove_187 1 rfl ?_
    refine y_get X fl_RX12_214 dX12_laysAbove_188 g6 ?_
    refine z_iload_n X dX12_laysAbove_191 2 rfl ?_
    obtain ⟨g7, hf⟩ := gif hf
    refine y_iald X dX12_laysAbove_192 g7 ?_
    obtain ⟨g8, hf⟩ := gif hf
    refine y_iald X dX12_laysAbove_193 g8 ?_
    refine z_isub X dX12_laysAbove_194 ?_
    obtain ⟨r195, hr195, hf⟩ := obE hf
    refine y_V1 X cv_RX12_460 dX12_laysAbove_195 g6 (c_M_newStep d (Nat.zero_le _) l0 e162.2.1 l1 (w32 (l2 - (r173.2 (r173.2 l0 4) (r173.2 (r173.2 l0 49) l1)))) r173.2 r195 hr195) (as := [(0, e162.2.1), (0, l1), (0, w32 (l2 - (r173.2 (r173.2 l0 4) (r173.2 (r173.2 l0 49) l1))))]) rfl rfl (Nat.le_of_ble_eq_true rfl) z00 ?_
    refine z_istore X dX12_laysAbove_198 (by decide) (ls' := [(18, (0, r195.1)), (16, (1, r173.1)), (0, (2, l0)), (1, (0, l1)), (2, (0, l2)), (3, (0, l3)), (4, (0, l4)), (5, (0, l5)), (6, (0, l6)), (9, (1, e162.1)), (11, (0, e162.2.1)), (12, (0, e162.2.2.1)), (13, (0, e162.2.2.2.1))]) rfl ?_
    refine z_aload_n X dX12_laysAbove_200 2 rfl ?_
    refine z_iload X dX12_laysAbove_201 0 rfl ?_
    refine z_iconst X dX12_laysAbove_203 kc_1 ?_
    refine z_aload_n X dX12_laysAbove_204 2 rfl ?_
    refine z_iload X dX12_laysAbove_205 10 rfl ?_
    obtain ⟨r207, hr207, hf⟩ := obE hf
    refine y_V1 X cv_RX12_268 dX12_laysAbove_207 g6 (c_M_root d (Nat.zero_le _) l0 e162.2.1 r195.2 r207 hr207) (as := [(0, e162.2.1)]) rfl rfl (Nat.le_of_ble_eq_true rfl) z00 ?_
    refine z_iload_n X dX12_laysAbove_210 5 rfl ?_
    refine z_iload X dX12_laysAbove_211 6 rfl ?_
    refine z_iload X dX12_laysAbove_213 11 rfl ?_
    refine z_iload X dX12_laysAbove_215 12 rfl ?_
    refine z_lload X dX12_laysAbove_217 9 rfl ?_
    refine z_lload X dX12_laysAbove_219 1 rfl ?_
    obtain ⟨g9, hf⟩ := gif hf
    refine z_ldiv X dX12_laysAbove_221 g9 ?_
    obtain ⟨r222, hr222, hf⟩ := obE hf
    refine y_V0 X cv_RX12_463 dX12_laysAbove_222 g6 (IH.1 l0 r195.1 1 r207 l3 l4 e162.2.2.1 e162.2.2.2.1 (w64 (Int.tdiv e162.1 r173.1)) r195.2 r222 hr222) (as := [(0, r195.1), (0, 1), (0, r207), (0, l3), (0, l4), (0, e162.2.2.1), (0, e162.2.2.2.1), (1, w64 (Int.tdiv e162.1 r173.1))]) rfl rfl (Nat.le_of_ble_eq_true rfl) z00 ?_
    refine z_aload_n X dX12_laysAbove_225 2 rfl ?_
    refine z_iload_n X dX12_laysAbove_226 3 rfl ?_
    refine z_iload_n X dX12_laysAbove_227 4 rfl ?_
    refine z_iload X dX12_laysAbove_228 11 rfl ?_
    refine z_iload X dX12_laysAbove_230 12 rfl ?_
    refine z_iload X dX12_laysAbove_232 7 rfl ?_
    refine z_iload X dX12_laysAbove_234 8 rfl ?_
    refine z_lload X dX12_laysAbove_236 9 rfl ?_
    refine z_lload X dX12_laysAbove_238 1 rfl ?_
    refine z_lrem X dX12_laysAbove_240 g9 ?_
    obtain ⟨r241, hr241, hf⟩ := obE hf
    refine y_V0 X cv_RX12_457 dX12_laysAbove_241 g6 (IH.2.2.2 l0 l1 l2 e162.2.2.1 e162.2.2.2.1 l5 l6 (w64 (Int.tmod e162.1 r173.1)) r222 r241 hr241) (as := [(0, l1), (0, l2), (0, e162.2.2.1), (0, e162.2.2.2.1), (0, l5), (0, l6), (1, w64 (Int.tmod e162.1 r173.1))]) rfl rfl (Nat.le_of_ble_eq_true rfl) z00 ?_
    cases hf
    exact z_vret X hK dX12_laysAbove_244
  have hx63_1 : ∀ e270 : Hp, (.inr e270 : (Int × Int × Int × Int × Hp) ⊕ (Hp)) = q63 → ZV g x 19 e270 270 [] [] := by
    intro e270 hq
    subst hq
    dsimp only at hf
    cases hf
    exact z_vret X hK dX12_laysAbove_270
  exact z_weak [1, 2, 3, 4, 5, 6, 7, 8, 0] rfl (z_loop (Z := (fun q : Int × Int × Hp => ZV g x 19 q.2.2 63 [(0, (2, l0)), (1, (0, l1)), (2, (0, l2)), (3, (0, l3)), (4, (0, l4)), (5, (0, l5)), (6, (0, l6)), (9, (1, q.1)), (11, (0, q.2.1))] [])) (E := fun q => q = q63) (fun q y hb hk => z_M_laysAbove_L63 X hd IH l0 l1 l2 l3 l4 l5 l6 (fun q => q = q63) hx63_0 hx63_1 q.1 q.2.1 q.2.2 y hb hk) LN (l9, 0, h) q63 hq63 rfl)
set_option maxHeartbeats 4000000 in
set_option maxRecDepth 100000 in
theorem cb_M_laysAbove {l : Launch} {g : GP} {d : Nat} (IH : M_lays_G_IH l g d) (hd : 1 ≤ d) (l0 l1 l2 l3 l4 l5 l6 l7 : Int) (h : Hp) (y : Hp) (hf : M_laysAbove_b (M_lays_G d) d l0 l1 l2 l3 l4 l5 l6 l7 h = some y) : zM l yX12_laysAbove cX12_laysAbove 19 none (d + 1) 0 0 g 157 h [(2, l0), (0, l1), (0, l2), (0, l3), (0, l4), (0, l5), (0, l6), (1, l7)] 157 y none := by
  refine z_start (by decide) (Nat.le_of_ble_eq_true rfl) (fun x X hK _ _ _ hl => ?_)
  have IH : M_lays_G_IH (xl x) g d := hl ▸ IH
  show ZV g x 19 h 0 [(0, (2, l0)), (1, (0, l1)), (2, (0, l2)), (3, (0, l3)), (4, (0, l4)), (5, (0, l5)), (6, (0, l6)), (7, (1, l7))] []
  unfold M_laysAbove_b at hf
  refine z_lload X dX12_laysAbove_0 7 rfl ?_
  refine z_lstore X dX12_laysAbove_2 (by decide) (ls' := [(9, (1, l7)), (0, (2, l0)), (1, (0, l1)), (2, (0, l2)), (3, (0, l3)), (4, (0, l4)), (5, (0, l5)), (6, (0, l6)), (7, (1, l7))]) rfl ?_
  refine z_aload_n X dX12_laysAbove_4 1 rfl ?_
  obtain ⟨g1, hf⟩ := gif hf
  refine y_get X fl_RX12_104 dX12_laysAbove_5 g1 ?_
  refine z_iload_n X dX12_laysAbove_8 3 rfl ?_
  obtain ⟨g2, hf⟩ := gif hf
  refine y_iald X dX12_laysAbove_9 g2 ?_
  refine z_iconst X dX12_laysAbove_10 kc_2 ?_
  refine z_icmp_eq X dX12_laysAbove_11 rfl (fun hc11 => ?_) (fun hc11 => ?_)
  · have hf := ift hc11 hf
    exact z_weak [1, 2, 3, 4, 5, 6, 7, 0] rfl (z_M_laysAbove_j60 X hd IH l0 l1 l2 l3 l4 l5 l6 l7 h _ hf hK)
  · have hf := iff' hc11 hf
    refine z_aload_n X dX12_laysAbove_14 1 rfl ?_
    refine z_iconst X dX12_laysAbove_15 kc_0 ?_
    refine z_iload_n X dX12_laysAbove_16 3 rfl ?_
    refine z_iload_n X dX12_laysAbove_17 4 rfl ?_
    refine z_iload X dX12_laysAbove_18 5 rfl ?_
    refine z_iload X dX12_laysAbove_20 6 rfl ?_
    refine z_iload X dX12_laysAbove_22 7 rfl ?_
    obtain ⟨r24, hr24, hf⟩ := obE hf
    refine y_V1 X cv_RX12_292 dX12_laysAbove_24 g1 (c_M_waysOf d l0 0 l2 l3 l4 l5 l6 h r24 hr24) (as := [(0, 0), (0, l2), (0, l3), (0, l4), (0, l5), (0, l6)]) rfl rfl (Nat.le_of_ble_eq_true rfl) z00 ?_
    refine z_lstore X dX12_laysAbove_27 (by decide) (ls' := [(11, (1, r24.1)), (9, (1, l7)), (0, (2, l0)), (1, (0, l1)), (2, (0, l2)), (3, (0, l3)), (4, (0, l4)), (5, (0, l5)), (6, (0, l6)), (7, (1, l7))]) rfl ?_
    refine z_lload X dX12_laysAbove_29 1 rfl ?_
    refine z_lload X dX12_laysAbove_31 0 rfl ?_
    refine z_l_ge X dX12_laysAbove_33 dX12_laysAbove_34 rfl (fun hc33 => ?_) (fun hc33 => ?_)
    · have hf := ift hc33 hf
      refine z_lload X dX12_laysAbove_53 1 rfl ?_
      refine z_lload X dX12_laysAbove_55 0 rfl ?_
      refine z_lsub X dX12_laysAbove_57 ?_
      refine z_lstore X dX12_laysAbove_58 (by decide) (ls' := [(9, (1, w64 (l7 - r24.1))), (11, (1, r24.1)), (0, (2, l0)), (1, (0, l1)), (2, (0, l2)), (3, (0, l3)), (4, (0, l4)), (5, (0, l5)), (6, (0, l6)), (7, (1, l7))]) rfl ?_
      exact z_weak [2, 3, 4, 5, 6, 7, 8, 0] rfl (z_M_laysAbove_j60 X hd IH l0 l1 l2 l3 l4 l5 l6 (w64 (l7 - r24.1)) r24.2 _ hf hK)
    · have hf := iff' hc33 hf
      refine z_aload_n X dX12_laysAbove_37 2 rfl ?_
      refine z_iload_n X dX12_laysAbove_38 3 rfl ?_
      refine z_iload_n X dX12_laysAbove_39 4 rfl ?_
      refine z_iload_n X dX12_laysAbove_40 5 rfl ?_
      refine z_iload X dX12_laysAbove_41 6 rfl ?_
      refine z_iload X dX12_laysAbove_43 7 rfl ?_
      refine z_iload X dX12_laysAbove_45 8 rfl ?_
      refine z_lload X dX12_laysAbove_47 1 rfl ?_
      obtain ⟨r49, hr49, hf⟩ := obE hf
      refine y_V0 X cv_RX12_457 dX12_laysAbove_49 g1 (IH.2.2.2 l0 l1 l2 l3 l4 l5 l6 l7 r24.2 r49 hr49) (as := [(0, l1), (0, l2), (0, l3), (0, l4), (0, l5), (0, l6), (1, l7)]) rfl rfl (Nat.le_of_ble_eq_true rfl) z00 ?_
      cases hf
      exact z_vret X hK dX12_laysAbove_52
set_option maxHeartbeats 4000000 in
set_option maxRecDepth 100000 in
theorem z_M_laysHost_j111 {g : GP} {x : CX} {d : Nat} (X : zX g x RX12 cX12_laysHost 13 (d + 1)) (hd : 1 ≤ d) (IH : M_lays_G_IH (xl x) g d) (l0 l1 l2 l3 l4 l7 l9 : Int) (h : Hp) (y : (Int × Int × Hp) ⊕ ((Int × Int × Hp) ⊕ (Hp))) (hf : M_laysHost_j111 (M_lays_G d) d l0 l1 l2 l3 l4 l7 l9 h = some y) (E : (Int × Int × Hp) ⊕ (Hp) → Prop) (hx0 : ∀ e : Int × Int × Hp, E (.inl e) → ZV g x 13 e.2.2 61 [(0, (2, l0)), (1, (0, l1)), (2, (0, l2)), (3, (0, l3)), (4, (0, l4)), (7, (1, e.1)), (9, (0, e.2.1))] []) (hx1 : ∀ e : Hp, E (.inr e) → ZV g x 13 e 117 [] []) (hk : z_sum (fun q : Int × Int × Hp => ZV g x 13 q.2.2 7 [(0, (2, l0)), (1, (0, l1)), (2, (0, l2)), (3, (0, l3)), (4, (0, l4)), (7, (1, q.1)), (9, (0, q.2.1))] []) E y) : ZV g x 13 h 111 [(0, (2, l0)), (1, (0, l1)), (2, (0, l2)), (3, (0, l3)), (4, (0, l4)), (7, (1, l7)), (9, (0, l9))] [] := by
  unfold M_laysHost_j111 at hf
  refine z_iinc X dX12_laysHost_111 6 rfl (by decide) (ls' := [(9, (0, w32 (l9 + 1))), (0, (2, l0)), (1, (0, l1)), (2, (0, l2)), (3, (0, l3)), (4, (0, l4)), (7, (1, l7))]) rfl ?_
  refine z_goto X dX12_laysHost_114 rfl ?_
  cases hf
  exact z_weak [1, 2, 3, 4, 5, 6, 0] rfl hk
set_option maxHeartbeats 4000000 in
set_option maxRecDepth 100000 in
theorem z_M_laysHost_L7 {g : GP} {x : CX} {d : Nat} (X : zX g x RX12 cX12_laysHost 13 (d + 1)) (hd : 1 ≤ d) (IH : M_lays_G_IH (xl x) g d) (l0 l1 l2 l3 l4 : Int)  (E : (Int × Int × Hp) ⊕ (Hp) → Prop) (hx0 : ∀ e : Int × Int × Hp, E (.inl e) → ZV g x 13 e.2.2 61 [(0, (2, l0)), (1, (0, l1)), (2, (0, l2)), (3, (0, l3)), (4, (0, l4)), (7, (1, e.1)), (9, (0, e.2.1))] []) (hx1 : ∀ e : Hp, E (.inr e) → ZV g x 13 e 117 [] []) (l7 l9 : Int) (h : Hp) (y : (Int × Int × Hp) ⊕ ((Int × Int × Hp) ⊕ (Hp))) (hf : M_laysHost_L7 (M_lays_G d) d l0 l1 l2 l3 l4 l7 l9 h = some y) (hk : z_sum (fun q : Int × Int × Hp => ZV g x 13 q.2.2 7 [(0, (2, l0)), (1, (0, l1)), (2, (0, l2)), (3, (0, l3)), (4, (0, l4)), (7, (1, q.1)), (9, (0, q.2.1))] []) E y) : ZV g x 13 h 7 [(0, (2, l0)), (1, (0, l1)), (2, (0, l2)), (3, (0, l3)), (4, (0, l4)), (7, (1, l7)), (9, (0, l9))] [] := by
  unfold M_laysHost_L7 at hf
  refine z_iload X dX12_laysHost_7 6 rfl ?_
  refine z_aload_n X dX12_laysHost_9 0 rfl ?_
  obtain ⟨g1, hf⟩ := gif hf
  refine y_get X fl_RX12_11 dX12_laysHost_10 g1 ?_
  refine z_icmp_ge X dX12_laysHost_13 rfl (fun hc13 => ?_) (fun hc13 => ?_)
  · have hf := ift hc13 hf
    cases hf
    exact z_weak [] rfl (hx1 _ hk)
  · have hf := iff' hc13 hf
    refine z_aload_n X dX12_laysHost_16 0 rfl ?_
    refine z_iload X dX12_laysHost_17 6 rfl ?_
    refine z_aload_n X dX12_laysHost_19 0 rfl ?_
    refine y_get X fl_RX12_101 dX12_laysHost_20 g1 ?_
    refine z_iload_n X dX12_laysHost_23 2 rfl ?_
    obtain ⟨g2, hf⟩ := gif hf
    refine y_iald X dX12_laysHost_24 g2 ?_
    refine z_iconst X dX12_laysHost_25 kc_0 ?_
    obtain ⟨r26, hr26, hf⟩ := obE hf
    refine y_V1 X cv_RX12_296 dX12_laysHost_26 g1 (c_M_mayGo d (Nat.le_trans (by decide) hd) l0 l9 (h (h l0 6) l2) 0 h r26 hr26) (as := [(0, l9), (0, h (h l0 6) l2), (0, 0)]) rfl rfl (Nat.le_of_ble_eq_true rfl) z00 ?_
    refine z_if_ne X dX12_laysHost_29 rfl (fun hc29 => ?_) (fun hc29 => ?_)
    · have hf := iff' hc29 hf
      refine z_aload_n X dX12_laysHost_35 0 rfl ?_
      refine z_iconst X dX12_laysHost_36 kc_1 ?_
      refine z_aload_n X dX12_laysHost_37 0 rfl ?_
      refine z_iload X dX12_laysHost_38 6 rfl ?_
      obtain ⟨r40, hr40, hf⟩ := obE hf
      refine y_V1 X cv_RX12_268 dX12_laysHost_40 g1 (c_M_root d (Nat.zero_le _) l0 l9 h r40 hr40) (as := [(0, l9)]) rfl rfl (Nat.le_of_ble_eq_true rfl) z00 ?_
      refine z_iload_n X dX12_laysHost_43 3 rfl ?_
      refine z_iload X dX12_laysHost_44 4 rfl ?_
      refine z_iconst X dX12_laysHost_46 kc_m1 ?_
      refine z_iconst X dX12_laysHost_47 kc_m1 ?_
      obtain ⟨r48, hr48, hf⟩ := obE hf
      refine y_V1 X cv_RX12_292 dX12_laysHost_48 g1 (c_M_waysOf d l0 1 r40 l3 l4 ((-1)) ((-1)) h r48 hr48) (as := [(0, 1), (0, r40), (0, l3), (0, l4), (0, (-1)), (0, (-1))]) rfl rfl (Nat.le_of_ble_eq_true rfl) z00 ?_
      refine z_lstore X dX12_laysHost_51 (by decide) (ls' := [(10, (1, r48.1)), (0, (2, l0)), (1, (0, l1)), (2, (0, l2)), (3, (0, l3)), (4, (0, l4)), (7, (1, l7)), (9, (0, l9))]) rfl ?_
      refine z_lload X dX12_laysHost_53 6 rfl ?_
      refine z_lload X dX12_laysHost_55 0 rfl ?_
      refine z_l_ge X dX12_laysHost_57 dX12_laysHost_58 rfl (fun hc57 => ?_) (fun hc57 => ?_)
      · have hf := ift hc57 hf
        refine z_lload X dX12_laysHost_104 6 rfl ?_
        refine z_lload X dX12_laysHost_106 0 rfl ?_
        refine z_lsub X dX12_laysHost_108 ?_
        refine z_lstore X dX12_laysHost_109 (by decide) (ls' := [(7, (1, w64 (l7 - r48.1))), (10, (1, r48.1)), (0, (2, l0)), (1, (0, l1)), (2, (0, l2)), (3, (0, l3)), (4, (0, l4)), (9, (0, l9))]) rfl ?_
        exact z_weak [2, 3, 4, 5, 6, 0, 7] rfl (z_M_laysHost_j111 X hd IH l0 l1 l2 l3 l4 (w64 (l7 - r48.1)) l9 r48.2 _ hf E hx0 hx1 hk)
      · have hf := iff' hc57 hf
        cases hf
        exact z_weak [1, 2, 3, 4, 5, 6, 7] rfl (hx0 _ hk)
    · have hf := ift hc29 hf
      refine z_goto X dX12_laysHost_32 rfl ?_
      exact (z_M_laysHost_j111 X hd IH l0 l1 l2 l3 l4 l7 l9 h _ hf E hx0 hx1 hk)
set_option maxHeartbeats 4000000 in
set_option maxRecDepth 100000 in
theorem cb_M_laysHost {l : Launch} {g : GP} {d : Nat} (IH : M_lays_G_IH l g d) (hd : 1 ≤ d) (l0 l1 l2 l3 l4 l5 : Int) (h : Hp) (y : Hp) (hf : M_laysHost_b (M_lays_G d) d l0 l1 l2 l3 l4 l5 h = some y) : zM l yX12_laysHost cX12_laysHost 13 none (d + 1) 0 0 g 157 h [(2, l0), (0, l1), (0, l2), (0, l3), (0, l4), (1, l5)] 157 y none := by
  refine z_start (by decide) (Nat.le_of_ble_eq_true rfl) (fun x X hK _ _ _ hl => ?_)
  have IH : M_lays_G_IH (xl x) g d := hl ▸ IH
  show ZV g x 13 h 0 [(0, (2, l0)), (1, (0, l1)), (2, (0, l2)), (3, (0, l3)), (4, (0, l4)), (5, (1, l5))] []
  unfold M_laysHost_b at hf
  refine z_lload X dX12_laysHost_0 5 rfl ?_
  refine z_lstore X dX12_laysHost_2 (by decide) (ls' := [(7, (1, l5)), (0, (2, l0)), (1, (0, l1)), (2, (0, l2)), (3, (0, l3)), (4, (0, l4)), (5, (1, l5))]) rfl ?_
  refine z_iconst X dX12_laysHost_4 kc_0 ?_
  refine z_istore X dX12_laysHost_5 (by decide) (ls' := [(9, (0, 0)), (7, (1, l5)), (0, (2, l0)), (1, (0, l1)), (2, (0, l2)), (3, (0, l3)), (4, (0, l4)), (5, (1, l5))]) rfl ?_
  obtain ⟨q7, hq7, hf⟩ := obE hf
  have hx7_0 : ∀ e61 : Int × Int × Hp, (.inl e61 : (Int × Int × Hp) ⊕ (Hp)) = q7 → ZV g x 13 e61.2.2 61 [(0, (2, l0)), (1, (0, l1)), (2, (0, l2)), (3, (0, l3)), (4, (0, l4)), (7, (1, e61.1)), (9, (0, e61.2.1))] [] := by
    intro e61 hq
    subst hq
    dsimp only at hf
    refine z_aload_n X dX12_laysHost_61 0 rfl ?_
    refine z_iload X dX12_laysHost_62 6 rfl ?_
    refine z_iload_n X dX12_laysHost_64 1 rfl ?_
    refine z_iload_n X dX12_laysHost_65 2 rfl ?_
    refine z_aload_n X dX12_laysHost_66 0 rfl ?_
    obtain ⟨g3, hf⟩ := gif hf
    refine y_get X fl_RX12_7 dX12_laysHost_67 g3 ?_
    refine z_aload_n X dX12_laysHost_70 0 rfl ?_
    refine y_get X fl_RX12_214 dX12_laysHost_71 g3 ?_
    refine z_iload_n X dX12_laysHost_74 1 rfl ?_
    obtain ⟨g4, hf⟩ := gif hf
    refine y_iald X dX12_laysHost_75 g4 ?_
    obtain ⟨g5, hf⟩ := gif hf
    refine y_iald X dX12_laysHost_76 g5 ?_
    refine z_isub X dX12_laysHost_77 ?_
    obtain ⟨r78, hr78, hf⟩ := obE hf
    refine y_V1 X cv_RX12_460 dX12_laysHost_78 g3 (c_M_newStep d (Nat.zero_le _) l0 e61.2.1 l1 (w32 (l2 - (e61.2.2 (e61.2.2 l0 4) (e61.2.2 (e61.2.2 l0 49) l1)))) e61.2.2 r78 hr78) (as := [(0, e61.2.1), (0, l1), (0, w32 (l2 - (e61.2.2 (e61.2.2 l0 4) (e61.2.2 (e61.2.2 l0 49) l1))))]) rfl rfl (Nat.le_of_ble_eq_true rfl) z00 ?_
    refine z_istore X dX12_laysHost_81 (by decide) (ls' := [(12, (0, r78.1)), (0, (2, l0)), (1, (0, l1)), (2, (0, l2)), (3, (0, l3)), (4, (0, l4)), (7, (1, e61.1)), (9, (0, e61.2.1))]) rfl ?_
    refine z_aload_n X dX12_laysHost_83 1 rfl ?_
    refine z_iload X dX12_laysHost_84 0 rfl ?_
    refine z_iconst X dX12_laysHost_86 kc_1 ?_
    refine z_aload_n X dX12_laysHost_87 1 rfl ?_
    refine z_iload X dX12_laysHost_88 7 rfl ?_
    obtain ⟨r90, hr90, hf⟩ := obE hf
    refine y_V1 X cv_RX12_268 dX12_laysHost_90 g3 (c_M_root d (Nat.zero_le _) l0 e61.2.1 r78.2 r90 hr90) (as := [(0, e61.2.1)]) rfl rfl (Nat.le_of_ble_eq_true rfl) z00 ?_
    refine z_iload_n X dX12_laysHost_93 4 rfl ?_
    refine z_iload X dX12_laysHost_94 5 rfl ?_
    refine z_iconst X dX12_laysHost_96 kc_m1 ?_
    refine z_iconst X dX12_laysHost_97 kc_m1 ?_
    refine z_lload X dX12_laysHost_98 6 rfl ?_
    obtain ⟨r100, hr100, hf⟩ := obE hf
    refine y_V0 X cv_RX12_463 dX12_laysHost_100 g3 (IH.1 l0 r78.1 1 r90 l3 l4 ((-1)) ((-1)) e61.1 r78.2 r100 hr100) (as := [(0, r78.1), (0, 1), (0, r90), (0, l3), (0, l4), (0, (-1)), (0, (-1)), (1, e61.1)]) rfl rfl (Nat.le_of_ble_eq_true rfl) z00 ?_
    cases hf
    exact z_vret X hK dX12_laysHost_103
  have hx7_1 : ∀ e117 : Hp, (.inr e117 : (Int × Int × Hp) ⊕ (Hp)) = q7 → ZV g x 13 e117 117 [] [] := by
    intro e117 hq
    subst hq
    dsimp only at hf
    cases hf
    exact z_vret X hK dX12_laysHost_117
  exact z_weak [2, 3, 4, 5, 6, 1, 0] rfl (z_loop (Z := (fun q : Int × Int × Hp => ZV g x 13 q.2.2 7 [(0, (2, l0)), (1, (0, l1)), (2, (0, l2)), (3, (0, l3)), (4, (0, l4)), (7, (1, q.1)), (9, (0, q.2.1))] [])) (E := fun q => q = q7) (fun q y hb hk => z_M_laysHost_L7 X hd IH l0 l1 l2 l3 l4 (fun q => q = q7) hx7_0 hx7_1 q.1 q.2.1 q.2.2 y hb hk) LN (l5, 0, h) q7 hq7 rfl)
set_option maxHeartbeats 4000000 in
set_option maxRecDepth 100000 in
theorem z_M_laysBelow_L87 {g : GP} {x : CX} {d : Nat} (X : zX g x RX12 cX12_laysBelow 18 (d + 1)) (hd : 1 ≤ d) (IH : M_lays_G_IH (xl x) g d) (l0 l1 l2 l3 l4 l5 l6 : Int)  (E : (Int × Int × Hp) ⊕ (Hp) → Prop) (hx0 : ∀ e : Int × Int × Hp, E (.inl e) → ZV g x 18 e.2.2 128 [(0, (2, l0)), (1, (0, l1)), (2, (0, l2)), (3, (0, l3)), (4, (0, l4)), (5, (0, l5)), (6, (0, l6)), (9, (1, e.1)), (11, (0, e.2.1))] []) (hx1 : ∀ e : Hp, E (.inr e) → ZV g x 18 e 261 [] []) (l9 l11 : Int) (h : Hp) (y : (Int × Int × Hp) ⊕ ((Int × Int × Hp) ⊕ (Hp))) (hf : M_laysBelow_L87 (M_lays_G d) d l0 l1 l2 l3 l4 l5 l6 l9 l11 h = some y) (hk : z_sum (fun q : Int × Int × Hp => ZV g x 18 q.2.2 87 [(0, (2, l0)), (1, (0, l1)), (2, (0, l2)), (3, (0, l3)), (4, (0, l4)), (5, (0, l5)), (6, (0, l6)), (9, (1, q.1)), (11, (0, q.2.1))] []) E y) : ZV g x 18 h 87 [(0, (2, l0)), (1, (0, l1)), (2, (0, l2)), (3, (0, l3)), (4, (0, l4)), (5, (0, l5)), (6, (0, l6)), (9, (1, l9)), (11, (0, l11))] [] := by
  unfold M_laysBelow_L87 at hf
  refine z_iload X dX12_laysBelow_87 8 rfl ?_
  refine z_iload X dX12_laysBelow_89 4 rfl ?_
  refine z_icmp_gt X dX12_laysBelow_91 rfl (fun hc91 => ?_) (fun hc91 => ?_)
  · have hf := ift hc91 hf
    cases hf
    exact z_weak [] rfl (hx1 _ hk)
  · have hf := iff' hc91 hf
    refine z_aload_n X dX12_laysBelow_94 0 rfl ?_
    refine z_iload_n X dX12_laysBelow_95 2 rfl ?_
    refine z_iload_n X dX12_laysBelow_96 3 rfl ?_
    refine z_iload X dX12_laysBelow_97 8 rfl ?_
    refine z_iload X dX12_laysBelow_99 4 rfl ?_
    refine z_iload X dX12_laysBelow_101 5 rfl ?_
    refine z_iload X dX12_laysBelow_103 6 rfl ?_
    obtain ⟨g8, hf⟩ := gif hf
    obtain ⟨r105, hr105, hf⟩ := obE hf
    refine y_V1 X cv_RX12_314 dX12_laysBelow_105 g8 (c_M_waysSplit d l0 l2 l3 l11 l4 l5 l6 h r105 hr105) (as := [(0, l2), (0, l3), (0, l11), (0, l4), (0, l5), (0, l6)]) rfl rfl (Nat.le_of_ble_eq_true rfl) z00 ?_
    refine z_lstore X dX12_laysBelow_108 (by decide) (ls' := [(12, (1, r105.1)), (0, (2, l0)), (1, (0, l1)), (2, (0, l2)), (3, (0, l3)), (4, (0, l4)), (5, (0, l5)), (6, (0, l6)), (9, (1, l9)), (11, (0, l11))]) rfl ?_
    refine z_lload X dX12_laysBelow_110 8 rfl ?_
    refine z_lload X dX12_laysBelow_112 0 rfl ?_
    refine z_l_lt X dX12_laysBelow_114 dX12_laysBelow_115 rfl (fun hc114 => ?_) (fun hc114 => ?_)
    · have hf := ift hc114 hf
      cases hf
      exact z_weak [1, 2, 3, 4, 5, 6, 7, 8, 9] rfl (hx0 _ hk)
    · have hf := iff' hc114 hf
      refine z_lload X dX12_laysBelow_118 8 rfl ?_
      refine z_lload X dX12_laysBelow_120 0 rfl ?_
      refine z_lsub X dX12_laysBelow_122 ?_
      refine z_lstore X dX12_laysBelow_123 (by decide) (ls' := [(9, (1, w64 (l9 - r105.1))), (12, (1, r105.1)), (0, (2, l0)), (1, (0, l1)), (2, (0, l2)), (3, (0, l3)), (4, (0, l4)), (5, (0, l5)), (6, (0, l6)), (11, (0, l11))]) rfl ?_
      refine z_goto X dX12_laysBelow_125 rfl ?_
      refine z_iinc X dX12_laysBelow_255 9 rfl (by decide) (ls' := [(11, (0, w32 (l11 + 1))), (9, (1, w64 (l9 - r105.1))), (12, (1, r105.1)), (0, (2, l0)), (1, (0, l1)), (2, (0, l2)), (3, (0, l3)), (4, (0, l4)), (5, (0, l5)), (6, (0, l6))]) rfl ?_
      refine z_goto X dX12_laysBelow_258 rfl ?_
      cases hf
      exact z_weak [3, 4, 5, 6, 7, 8, 9, 1, 0] rfl hk
set_option maxHeartbeats 4000000 in
set_option maxRecDepth 100000 in
theorem z_M_laysBelow_j246 {g : GP} {x : CX} {d : Nat} (X : zX g x RX12 cX12_laysBelow 18 (d + 1)) (hd : 1 ≤ d) (IH : M_lays_G_IH (xl x) g d) (l9 l14 s0 s1 s2 s3 s4 s5 s6 s7 : Int) (h : Hp) (y : Hp) (hf : M_laysBelow_j246 (M_lays_G d) d l9 l14 s0 s1 s2 s3 s4 s5 s6 s7 h = some y) (hK : zE g x none 0 0 157 y none) : ZV g x 18 h 246 [(9, (1, l9)), (14, (1, l14))] [(0, s0), (0, s1), (0, s2), (0, s3), (0, s4), (0, s5), (0, s6), (2, s7)] := by
  unfold M_laysBelow_j246 at hf
  refine z_lload X dX12_laysBelow_246 0 rfl ?_
  refine z_lload X dX12_laysBelow_248 1 rfl ?_
  obtain ⟨g17, hf⟩ := gif hf
  refine z_lrem X dX12_laysBelow_250 g17 ?_
  obtain ⟨g18, hf⟩ := gif hf
  obtain ⟨r251, hr251, hf⟩ := obE hf
  refine y_V0 X cv_RX12_463 dX12_laysBelow_251 g18 (IH.1 s7 s6 s5 s4 s3 s2 s1 s0 (w64 (Int.tmod l9 l14)) h r251 hr251) (as := [(0, s6), (0, s5), (0, s4), (0, s3), (0, s2), (0, s1), (0, s0), (1, w64 (Int.tmod l9 l14))]) rfl rfl (Nat.le_of_ble_eq_true rfl) z00 ?_
  cases hf
  exact z_vret X hK dX12_laysBelow_254
set_option maxHeartbeats 4000000 in
set_option maxRecDepth 100000 in
theorem z_M_laysBelow_j235 {g : GP} {x : CX} {d : Nat} (X : zX g x RX12 cX12_laysBelow 18 (d + 1)) (hd : 1 ≤ d) (IH : M_lays_G_IH (xl x) g d) (l6 l9 l14 l17 s0 s1 s2 s3 s4 s5 s6 : Int) (h : Hp) (y : Hp) (hf : M_laysBelow_j235 (M_lays_G d) d l6 l9 l14 l17 s0 s1 s2 s3 s4 s5 s6 h = some y) (hK : zE g x none 0 0 157 y none) : ZV g x 18 h 235 [(6, (0, l6)), (9, (1, l9)), (14, (1, l14)), (17, (0, l17))] [(0, s0), (0, s1), (0, s2), (0, s3), (0, s4), (0, s5), (2, s6)] := by
  unfold M_laysBelow_j235 at hf
  refine z_iload X dX12_laysBelow_235 3 rfl ?_
  refine z_if_eq X dX12_laysBelow_237 rfl (fun hc237 => ?_) (fun hc237 => ?_)
  · rw [if_pos hc237] at hf
    refine z_iconst X dX12_laysBelow_245 kc_m1 ?_
    exact z_weak [1, 2] rfl (z_M_laysBelow_j246 X hd IH l9 l14 ((-1)) s0 s1 s2 s3 s4 s5 s6 h _ hf hK)
  · rw [if_neg hc237] at hf
    refine z_iload X dX12_laysBelow_240 0 rfl ?_
    refine z_goto X dX12_laysBelow_242 rfl ?_
    exact z_weak [1, 2] rfl (z_M_laysBelow_j246 X hd IH l9 l14 l6 s0 s1 s2 s3 s4 s5 s6 h _ hf hK)
set_option maxHeartbeats 4000000 in
set_option maxRecDepth 100000 in
theorem z_M_laysBelow_j203 {g : GP} {x : CX} {d : Nat} (X : zX g x RX12 cX12_laysBelow 18 (d + 1)) (hd : 1 ≤ d) (IH : M_lays_G_IH (xl x) g d) (l0 l1 l2 l4 l5 l6 l9 l11 l14 l17 s0 s1 s2 s3 s4 s5 s6 s7 : Int) (h : Hp) (y : Hp) (hf : M_laysBelow_j203 (M_lays_G d) d l0 l1 l2 l4 l5 l6 l9 l11 l14 l17 s0 s1 s2 s3 s4 s5 s6 s7 h = some y) (hK : zE g x none 0 0 157 y none) : ZV g x 18 h 203 [(0, (2, l0)), (1, (0, l1)), (2, (0, l2)), (4, (0, l4)), (5, (0, l5)), (6, (0, l6)), (9, (1, l9)), (11, (0, l11)), (14, (1, l14)), (17, (0, l17))] [(0, s0), (0, s1), (0, s2), (0, s3), (0, s4), (0, s5), (0, s6), (2, s7)] := by
  unfold M_laysBelow_j203 at hf
  refine z_lload X dX12_laysBelow_203 6 rfl ?_
  refine z_lload X dX12_laysBelow_205 8 rfl ?_
  obtain ⟨g13, hf⟩ := gif hf
  refine z_ldiv X dX12_laysBelow_207 g13 ?_
  obtain ⟨g14, hf⟩ := gif hf
  obtain ⟨r208, hr208, hf⟩ := obE hf
  refine y_V0 X cv_RX12_463 dX12_laysBelow_208 g14 (IH.1 s7 s6 s5 s4 s3 s2 s1 s0 (w64 (Int.tdiv l9 l14)) h r208 hr208) (as := [(0, s6), (0, s5), (0, s4), (0, s3), (0, s2), (0, s1), (0, s0), (1, w64 (Int.tdiv l9 l14))]) rfl rfl (Nat.le_of_ble_eq_true rfl) z00 ?_
  refine z_aload_n X dX12_laysBelow_211 0 rfl ?_
  refine z_iload_n X dX12_laysBelow_212 1 rfl ?_
  refine z_iconst X dX12_laysBelow_213 kc_1 ?_
  refine z_aload_n X dX12_laysBelow_214 0 rfl ?_
  obtain ⟨g15, hf⟩ := gif hf
  refine y_get X fl_RX12_110 dX12_laysBelow_215 g15 ?_
  refine z_iload_n X dX12_laysBelow_218 2 rfl ?_
  obtain ⟨g16, hf⟩ := gif hf
  refine y_iald X dX12_laysBelow_219 g16 ?_
  refine z_iload X dX12_laysBelow_220 7 rfl ?_
  refine z_iload X dX12_laysBelow_222 3 rfl ?_
  refine z_iload X dX12_laysBelow_224 9 rfl ?_
  refine z_if_eq X dX12_laysBelow_226 rfl (fun hc226 => ?_) (fun hc226 => ?_)
  · rw [if_pos hc226] at hf
    refine z_iconst X dX12_laysBelow_234 kc_m1 ?_
    exact z_weak [5, 6, 8, 9] rfl (z_M_laysBelow_j235 X hd IH l6 l9 l14 l17 ((-1)) l4 l11 (r208 (r208 l0 9) l2) 1 l1 l0 r208 _ hf hK)
  · rw [if_neg hc226] at hf
    refine z_iload X dX12_laysBelow_229 4 rfl ?_
    refine z_goto X dX12_laysBelow_231 rfl ?_
    exact z_weak [5, 6, 8, 9] rfl (z_M_laysBelow_j235 X hd IH l6 l9 l14 l17 l5 l4 l11 (r208 (r208 l0 9) l2) 1 l1 l0 r208 _ hf hK)
set_option maxHeartbeats 4000000 in
set_option maxRecDepth 100000 in
theorem z_M_laysBelow_j192 {g : GP} {x : CX} {d : Nat} (X : zX g x RX12 cX12_laysBelow 18 (d + 1)) (hd : 1 ≤ d) (IH : M_lays_G_IH (xl x) g d) (l0 l1 l2 l4 l5 l6 l9 l11 l14 l16 l17 s0 s1 s2 s3 s4 s5 s6 : Int) (h : Hp) (y : Hp) (hf : M_laysBelow_j192 (M_lays_G d) d l0 l1 l2 l4 l5 l6 l9 l11 l14 l16 l17 s0 s1 s2 s3 s4 s5 s6 h = some y) (hK : zE g x none 0 0 157 y none) : ZV g x 18 h 192 [(0, (2, l0)), (1, (0, l1)), (2, (0, l2)), (4, (0, l4)), (5, (0, l5)), (6, (0, l6)), (9, (1, l9)), (11, (0, l11)), (14, (1, l14)), (16, (0, l16)), (17, (0, l17))] [(0, s0), (0, s1), (0, s2), (0, s3), (0, s4), (0, s5), (2, s6)] := by
  unfold M_laysBelow_j192 at hf
  refine z_iload X dX12_laysBelow_192 9 rfl ?_
  refine z_if_eq X dX12_laysBelow_194 rfl (fun hc194 => ?_) (fun hc194 => ?_)
  · rw [if_pos hc194] at hf
    refine z_iconst X dX12_laysBelow_202 kc_m1 ?_
    exact z_weak [0, 1, 2, 3, 4, 5, 6, 7, 8, 10] rfl (z_M_laysBelow_j203 X hd IH l0 l1 l2 l4 l5 l6 l9 l11 l14 l17 ((-1)) s0 s1 s2 s3 s4 s5 s6 h _ hf hK)
  · rw [if_neg hc194] at hf
    refine z_iload X dX12_laysBelow_197 5 rfl ?_
    refine z_goto X dX12_laysBelow_199 rfl ?_
    exact z_weak [0, 1, 2, 3, 4, 5, 6, 7, 8, 10] rfl (z_M_laysBelow_j203 X hd IH l0 l1 l2 l4 l5 l6 l9 l11 l14 l17 l6 s0 s1 s2 s3 s4 s5 s6 h _ hf hK)
set_option maxHeartbeats 4000000 in
set_option maxRecDepth 100000 in
theorem z_M_laysBelow_j38 {g : GP} {x : CX} {d : Nat} (X : zX g x RX12 cX12_laysBelow 18 (d + 1)) (hd : 1 ≤ d) (IH : M_lays_G_IH (xl x) g d) (l0 l1 l2 l3 l4 l5 l6 l7 : Int) (h : Hp) (y : Hp) (hf : M_laysBelow_j38 (M_lays_G d) d l0 l1 l2 l3 l4 l5 l6 l7 h = some y) (hK : zE g x none 0 0 157 y none) : ZV g x 18 h 38 [(0, (2, l0)), (1, (0, l1)), (2, (0, l2)), (3, (0, l3)), (4, (0, l4)), (5, (0, l5)), (6, (0, l6)), (7, (1, l7))] [] := by
  unfold M_laysBelow_j38 at hf
  refine z_aload_n X dX12_laysBelow_38 0 rfl ?_
  obtain ⟨g5, hf⟩ := gif hf
  refine y_get X fl_RX12_98 dX12_laysBelow_39 g5 ?_
  refine z_iload_n X dX12_laysBelow_42 2 rfl ?_
  obtain ⟨g6, hf⟩ := gif hf
  refine y_iald X dX12_laysBelow_43 g6 ?_
  refine z_if_eq X dX12_laysBelow_44 rfl (fun hc44 => ?_) (fun hc44 => ?_)
  · have hf := ift hc44 hf
    refine z_aload_n X dX12_laysBelow_48 0 rfl ?_
    refine y_get X fl_RX12_110 dX12_laysBelow_49 g5 ?_
    refine z_iload_n X dX12_laysBelow_52 2 rfl ?_
    obtain ⟨g7, hf⟩ := gif hf
    refine y_iald X dX12_laysBelow_53 g7 ?_
    refine z_iconst X dX12_laysBelow_54 kc_m1 ?_
    refine z_icmp_ne X dX12_laysBelow_55 rfl (fun hc55 => ?_) (fun hc55 => ?_)
    · have hf := iff' hc55 hf
      refine z_lload X dX12_laysBelow_80 7 rfl ?_
      refine z_lstore X dX12_laysBelow_82 (by decide) (ls' := [(9, (1, l7)), (0, (2, l0)), (1, (0, l1)), (2, (0, l2)), (3, (0, l3)), (4, (0, l4)), (5, (0, l5)), (6, (0, l6)), (7, (1, l7))]) rfl ?_
      refine z_iload_n X dX12_laysBelow_84 4 rfl ?_
      refine z_istore X dX12_laysBelow_85 (by decide) (ls' := [(11, (0, l3)), (9, (1, l7)), (0, (2, l0)), (1, (0, l1)), (2, (0, l2)), (3, (0, l3)), (4, (0, l4)), (5, (0, l5)), (6, (0, l6)), (7, (1, l7))]) rfl ?_
      obtain ⟨q87, hq87, hf⟩ := obE hf
      have hx87_0 : ∀ e128 : Int × Int × Hp, (.inl e128 : (Int × Int × Hp) ⊕ (Hp)) = q87 → ZV g x 18 e128.2.2 128 [(0, (2, l0)), (1, (0, l1)), (2, (0, l2)), (3, (0, l3)), (4, (0, l4)), (5, (0, l5)), (6, (0, l6)), (9, (1, e128.1)), (11, (0, e128.2.1))] [] := by
        intro e128 hq
        subst hq
        dsimp only at hf
        refine z_aload_n X dX12_laysBelow_128 0 rfl ?_
        refine z_iload_n X dX12_laysBelow_129 2 rfl ?_
        refine z_iload X dX12_laysBelow_130 8 rfl ?_
        refine z_iload X dX12_laysBelow_132 4 rfl ?_
        refine z_iload X dX12_laysBelow_134 5 rfl ?_
        refine z_iload X dX12_laysBelow_136 6 rfl ?_
        obtain ⟨r138, hr138, hf⟩ := obE hf
        refine y_V1 X cv_RX12_324 dX12_laysBelow_138 g5 (c_M_waysSecond d l0 l2 e128.2.1 l4 l5 l6 e128.2.2 r138 hr138) (as := [(0, l2), (0, e128.2.1), (0, l4), (0, l5), (0, l6)]) rfl rfl (Nat.le_of_ble_eq_true rfl) z00 ?_
        refine z_lstore X dX12_laysBelow_141 (by decide) (ls' := [(14, (1, r138.1)), (0, (2, l0)), (1, (0, l1)), (2, (0, l2)), (3, (0, l3)), (4, (0, l4)), (5, (0, l5)), (6, (0, l6)), (9, (1, e128.1)), (11, (0, e128.2.1))]) rfl ?_
        refine z_aload_n X dX12_laysBelow_143 1 rfl ?_
        refine y_get X fl_RX12_167 dX12_laysBelow_144 g5 ?_
        refine z_aload_n X dX12_laysBelow_147 1 rfl ?_
        refine y_get X fl_RX12_107 dX12_laysBelow_148 g5 ?_
        refine z_iload_n X dX12_laysBelow_151 3 rfl ?_
        obtain ⟨g9, hf⟩ := gif hf
        refine y_iald X dX12_laysBelow_152 g9 ?_
        obtain ⟨g10, hf⟩ := gif hf
        refine y_zald X dX12_laysBelow_153 g10 ?_
        refine z_istore X dX12_laysBelow_154 (by decide) (ls' := [(16, (0, r138.2 (r138.2 l0 14) (r138.2 (r138.2 l0 8) l2))), (14, (1, r138.1)), (0, (2, l0)), (1, (0, l1)), (2, (0, l2)), (3, (0, l3)), (4, (0, l4)), (5, (0, l5)), (6, (0, l6)), (9, (1, e128.1)), (11, (0, e128.2.1))]) rfl ?_
        refine z_aload_n X dX12_laysBelow_156 2 rfl ?_
        refine y_get X fl_RX12_167 dX12_laysBelow_157 g5 ?_
        refine z_aload_n X dX12_laysBelow_160 2 rfl ?_
        refine y_get X fl_RX12_110 dX12_laysBelow_161 g5 ?_
        refine z_iload_n X dX12_laysBelow_164 4 rfl ?_
        obtain ⟨g11, hf⟩ := gif hf
        refine y_iald X dX12_laysBelow_165 g11 ?_
        obtain ⟨g12, hf⟩ := gif hf
        refine y_zald X dX12_laysBelow_166 g12 ?_
        refine z_istore X dX12_laysBelow_167 (by decide) (ls' := [(17, (0, r138.2 (r138.2 l0 14) (r138.2 (r138.2 l0 9) l2))), (16, (0, r138.2 (r138.2 l0 14) (r138.2 (r138.2 l0 8) l2))), (14, (1, r138.1)), (0, (2, l0)), (1, (0, l1)), (2, (0, l2)), (3, (0, l3)), (4, (0, l4)), (5, (0, l5)), (6, (0, l6)), (9, (1, e128.1)), (11, (0, e128.2.1))]) rfl ?_
        refine z_aload_n X dX12_laysBelow_169 3 rfl ?_
        refine z_iload_n X dX12_laysBelow_170 4 rfl ?_
        refine z_iconst X dX12_laysBelow_171 kc_1 ?_
        refine z_aload_n X dX12_laysBelow_172 3 rfl ?_
        refine y_get X fl_RX12_107 dX12_laysBelow_173 g5 ?_
        refine z_iload_n X dX12_laysBelow_176 5 rfl ?_
        refine y_iald X dX12_laysBelow_177 g9 ?_
        refine z_iload_n X dX12_laysBelow_178 6 rfl ?_
        refine z_iload X dX12_laysBelow_179 11 rfl ?_
        refine z_iload X dX12_laysBelow_181 1 rfl ?_
        refine z_if_eq X dX12_laysBelow_183 rfl (fun hc183 => ?_) (fun hc183 => ?_)
        · rw [if_pos hc183] at hf
          refine z_iconst X dX12_laysBelow_191 kc_m1 ?_
          exact z_weak [3, 4, 5, 7, 8, 9, 10, 11, 2, 1, 0] rfl (z_M_laysBelow_j192 X hd IH l0 l1 l2 l4 l5 l6 e128.1 e128.2.1 r138.1 (r138.2 (r138.2 l0 14) (r138.2 (r138.2 l0 8) l2)) (r138.2 (r138.2 l0 14) (r138.2 (r138.2 l0 9) l2)) ((-1)) e128.2.1 l3 (r138.2 (r138.2 l0 8) l2) 1 l1 l0 r138.2 _ hf hK)
        · rw [if_neg hc183] at hf
          refine z_iload X dX12_laysBelow_186 8 rfl ?_
          refine z_goto X dX12_laysBelow_188 rfl ?_
          exact z_weak [3, 4, 5, 7, 8, 9, 10, 11, 2, 1, 0] rfl (z_M_laysBelow_j192 X hd IH l0 l1 l2 l4 l5 l6 e128.1 e128.2.1 r138.1 (r138.2 (r138.2 l0 14) (r138.2 (r138.2 l0 8) l2)) (r138.2 (r138.2 l0 14) (r138.2 (r138.2 l0 9) l2)) l5 e128.2.1 l3 (r138.2 (r138.2 l0 8) l2) 1 l1 l0 r138.2 _ hf hK)
      have hx87_1 : ∀ e261 : Hp, (.inr e261 : (Int × Int × Hp) ⊕ (Hp)) = q87 → ZV g x 18 e261 261 [] [] := by
        intro e261 hq
        subst hq
        dsimp only at hf
        cases hf
        exact z_vret X hK dX12_laysBelow_261
      exact z_weak [2, 3, 4, 5, 6, 7, 8, 1, 0] rfl (z_loop (Z := (fun q : Int × Int × Hp => ZV g x 18 q.2.2 87 [(0, (2, l0)), (1, (0, l1)), (2, (0, l2)), (3, (0, l3)), (4, (0, l4)), (5, (0, l5)), (6, (0, l6)), (9, (1, q.1)), (11, (0, q.2.1))] [])) (E := fun q => q = q87) (fun q y hb hk => z_M_laysBelow_L87 X hd IH l0 l1 l2 l3 l4 l5 l6 (fun q => q = q87) hx87_0 hx87_1 q.1 q.2.1 q.2.2 y hb hk) LN (l7, l3, h) q87 hq87 rfl)
    · have hf := ift hc55 hf
      refine z_aload_n X dX12_laysBelow_58 0 rfl ?_
      refine z_iload_n X dX12_laysBelow_59 1 rfl ?_
      refine z_iconst X dX12_laysBelow_60 kc_1 ?_
      refine z_aload_n X dX12_laysBelow_61 0 rfl ?_
      refine y_get X fl_RX12_107 dX12_laysBelow_62 g5 ?_
      refine z_iload_n X dX12_laysBelow_65 2 rfl ?_
      obtain ⟨g19, hf⟩ := gif hf
      refine y_iald X dX12_laysBelow_66 g19 ?_
      refine z_iload_n X dX12_laysBelow_67 3 rfl ?_
      refine z_iload X dX12_laysBelow_68 4 rfl ?_
      refine z_iload X dX12_laysBelow_70 5 rfl ?_
      refine z_iload X dX12_laysBelow_72 6 rfl ?_
      refine z_lload X dX12_laysBelow_74 7 rfl ?_
      obtain ⟨r76, hr76, hf⟩ := obE hf
      refine y_V0 X cv_RX12_463 dX12_laysBelow_76 g5 (IH.1 l0 l1 1 (h (h l0 8) l2) l3 l4 l5 l6 l7 h r76 hr76) (as := [(0, l1), (0, 1), (0, h (h l0 8) l2), (0, l3), (0, l4), (0, l5), (0, l6), (1, l7)]) rfl rfl (Nat.le_of_ble_eq_true rfl) z00 ?_
      cases hf
      exact z_vret X hK dX12_laysBelow_79
  · have hf := iff' hc44 hf
    cases hf
    exact z_vret X hK dX12_laysBelow_47
set_option maxHeartbeats 4000000 in
set_option maxRecDepth 100000 in
theorem z_M_laysBelow_j17 {g : GP} {x : CX} {d : Nat} (X : zX g x RX12 cX12_laysBelow 18 (d + 1)) (hd : 1 ≤ d) (IH : M_lays_G_IH (xl x) g d) (l0 l1 l2 l3 l4 l5 l6 l7 : Int) (h : Hp) (y : Hp) (hf : M_laysBelow_j17 (M_lays_G d) d l0 l1 l2 l3 l4 l5 l6 l7 h = some y) (hK : zE g x none 0 0 157 y none) : ZV g x 18 h 17 [(0, (2, l0)), (1, (0, l1)), (2, (0, l2)), (3, (0, l3)), (4, (0, l4)), (5, (0, l5)), (6, (0, l6)), (7, (1, l7))] [] := by
  unfold M_laysBelow_j17 at hf
  refine z_aload_n X dX12_laysBelow_17 0 rfl ?_
  obtain ⟨g3, hf⟩ := gif hf
  refine y_get X fl_RX12_98 dX12_laysBelow_18 g3 ?_
  refine z_iload_n X dX12_laysBelow_21 2 rfl ?_
  obtain ⟨g4, hf⟩ := gif hf
  refine y_iald X dX12_laysBelow_22 g4 ?_
  refine z_iconst X dX12_laysBelow_23 kc_4 ?_
  refine z_icmp_ne X dX12_laysBelow_24 rfl (fun hc24 => ?_) (fun hc24 => ?_)
  · have hf := iff' hc24 hf
    exact (z_M_laysBelow_j38 X hd IH l0 l1 l2 l3 l4 l5 l6 l7 h _ hf hK)
  · have hf := ift hc24 hf
    refine z_aload_n X dX12_laysBelow_27 0 rfl ?_
    refine z_iload_n X dX12_laysBelow_28 1 rfl ?_
    refine z_iload_n X dX12_laysBelow_29 2 rfl ?_
    refine z_iload_n X dX12_laysBelow_30 3 rfl ?_
    refine z_iload X dX12_laysBelow_31 4 rfl ?_
    refine z_lload X dX12_laysBelow_33 7 rfl ?_
    obtain ⟨r35, hr35, hf⟩ := obE hf
    refine y_V0 X cv_RX12_470 dX12_laysBelow_35 g3 (IH.2.2.1 l0 l1 l2 l3 l4 l7 h r35 hr35) (as := [(0, l1), (0, l2), (0, l3), (0, l4), (1, l7)]) rfl rfl (Nat.le_of_ble_eq_true rfl) z00 ?_
    exact (z_M_laysBelow_j38 X hd IH l0 l1 l2 l3 l4 l5 l6 l7 r35 _ hf hK)
set_option maxHeartbeats 4000000 in
set_option maxRecDepth 100000 in
theorem cb_M_laysBelow {l : Launch} {g : GP} {d : Nat} (IH : M_lays_G_IH l g d) (hd : 1 ≤ d) (l0 l1 l2 l3 l4 l5 l6 l7 : Int) (h : Hp) (y : Hp) (hf : M_laysBelow_b (M_lays_G d) d l0 l1 l2 l3 l4 l5 l6 l7 h = some y) : zM l yX12_laysBelow cX12_laysBelow 18 none (d + 1) 0 0 g 157 h [(2, l0), (0, l1), (0, l2), (0, l3), (0, l4), (0, l5), (0, l6), (1, l7)] 157 y none := by
  refine z_start (by decide) (Nat.le_of_ble_eq_true rfl) (fun x X hK _ _ _ hl => ?_)
  have IH : M_lays_G_IH (xl x) g d := hl ▸ IH
  show ZV g x 18 h 0 [(0, (2, l0)), (1, (0, l1)), (2, (0, l2)), (3, (0, l3)), (4, (0, l4)), (5, (0, l5)), (6, (0, l6)), (7, (1, l7))] []
  unfold M_laysBelow_b at hf
  refine z_aload_n X dX12_laysBelow_0 0 rfl ?_
  obtain ⟨g1, hf⟩ := gif hf
  refine y_get X fl_RX12_98 dX12_laysBelow_1 g1 ?_
  refine z_iload_n X dX12_laysBelow_4 2 rfl ?_
  obtain ⟨g2, hf⟩ := gif hf
  refine y_iald X dX12_laysBelow_5 g2 ?_
  refine z_iconst X dX12_laysBelow_6 kc_1 ?_
  refine z_icmp_ne X dX12_laysBelow_7 rfl (fun hc7 => ?_) (fun hc7 => ?_)
  · have hf := iff' hc7 hf
    exact (z_M_laysBelow_j17 X hd IH l0 l1 l2 l3 l4 l5 l6 l7 h _ hf hK)
  · have hf := ift hc7 hf
    refine z_aload_n X dX12_laysBelow_10 0 rfl ?_
    refine z_iload_n X dX12_laysBelow_11 1 rfl ?_
    refine z_iload_n X dX12_laysBelow_12 2 rfl ?_
    refine z_iload_n X dX12_laysBelow_13 3 rfl ?_
    obtain ⟨r14, hr14, hf⟩ := obE hf
    refine y_V0 X cv_RX12_467 dX12_laysBelow_14 g1 (c_M_laysLetter d (Nat.zero_le _) l0 l1 l2 l3 h r14 hr14) (as := [(0, l1), (0, l2), (0, l3)]) rfl rfl (Nat.le_of_ble_eq_true rfl) z00 ?_
    exact (z_M_laysBelow_j17 X hd IH l0 l1 l2 l3 l4 l5 l6 l7 r14 _ hf hK)
set_option maxHeartbeats 4000000 in
set_option maxRecDepth 100000 in
theorem M_lays_G_ok (l : Launch) (g : GP) : ∀ d, M_lays_G_IH l g d
  | 0 => ⟨fun _ _ _ _ _ _ _ _ _ h y hf => (nomatch (show none = some y from hf)), fun _ _ _ _ _ _ _ _ h y hf => (nomatch (show none = some y from hf)), fun _ _ _ _ _ _ h y hf => (nomatch (show none = some y from hf)), fun _ _ _ _ _ _ _ _ h y hf => (nomatch (show none = some y from hf))⟩
  | d + 1 => by
    have IH := M_lays_G_ok l g d
    refine ⟨fun l0 l1 l2 l3 l4 l5 l6 l7 l8 h y hf => ?_, fun l0 l1 l2 l3 l4 l5 l6 l7 h y hf => ?_, fun l0 l1 l2 l3 l4 l5 h y hf => ?_, fun l0 l1 l2 l3 l4 l5 l6 l7 h y hf => ?_⟩
    · obtain ⟨hd, hf⟩ := gif (show (if 1 ≤ d then M_lays_b (M_lays_G d) d l0 l1 l2 l3 l4 l5 l6 l7 l8 h else none) = some y from hf)
      exact cb_M_lays IH hd l0 l1 l2 l3 l4 l5 l6 l7 l8 h y hf
    · obtain ⟨hd, hf⟩ := gif (show (if 1 ≤ d then M_laysAbove_b (M_lays_G d) d l0 l1 l2 l3 l4 l5 l6 l7 h else none) = some y from hf)
      exact cb_M_laysAbove IH hd l0 l1 l2 l3 l4 l5 l6 l7 h y hf
    · obtain ⟨hd, hf⟩ := gif (show (if 1 ≤ d then M_laysHost_b (M_lays_G d) d l0 l1 l2 l3 l4 l5 h else none) = some y from hf)
      exact cb_M_laysHost IH hd l0 l1 l2 l3 l4 l5 h y hf
    · obtain ⟨hd, hf⟩ := gif (show (if 1 ≤ d then M_laysBelow_b (M_lays_G d) d l0 l1 l2 l3 l4 l5 l6 l7 h else none) = some y from hf)
      exact cb_M_laysBelow IH hd l0 l1 l2 l3 l4 l5 l6 l7 h y hf
set_option maxHeartbeats 4000000 in
set_option maxRecDepth 100000 in
theorem c_M_lays {l : Launch} {g : GP} (d : Nat) (l0 l1 l2 l3 l4 l5 l6 l7 l8 : Int) (h : Hp) (y : Hp) (hf : M_lays d l0 l1 l2 l3 l4 l5 l6 l7 l8 h = some y) : zM l yX12_lays cX12_lays 10 none d 0 0 g 157 h [(2, l0), (0, l1), (0, l2), (0, l3), (0, l4), (0, l5), (0, l6), (0, l7), (1, l8)] 157 y none := (M_lays_G_ok l g d).1 l0 l1 l2 l3 l4 l5 l6 l7 l8 h y hf
