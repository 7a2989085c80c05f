set_option maxHeartbeats 4000000 in
set_option maxRecDepth 100000 in
theorem c_M_spanOf {l : Launch} {g : GP} (d : Nat) (hd : 1 ≤ d) (l0 l1 l2 l3 l4 : Int) (h : Hp) (y : Int) (hf : M_spanOf l0 l1 l2 l3 l4 h = some y) : zM l yX12_spanOf cX12_spanOf 5 (some .int) d 0 0 g 157 h [(2, l0), (0, l1), (0, l2), (0, l3), (0, l4)] 157 h (some (0, y)) := by
  obtain ⟨d, rfl⟩ : ∃ k, d = k + 1 := ⟨d - 1, by omega⟩
  replace hd : 0 ≤ d := Nat.le_of_succ_le_succ hd
  refine z_start (by decide) (Nat.le_of_ble_eq_true rfl) (fun x X hK _ _ _ hl => ?_)
  show ZV g x 5 h 0 [(0, (2, l0)), (1, (0, l1)), (2, (0, l2)), (3, (0, l3)), (4, (0, l4))] []
  unfold M_spanOf at hf
  refine z_aload_n X dX12_spanOf_0 0 rfl ?_
  obtain ⟨g1, hf⟩ := gif hf
  refine y_get X fl_RX12_185 dX12_spanOf_1 g1 ?_
  refine z_iload_n X dX12_spanOf_4 1 rfl ?_
  refine z_iload_n X dX12_spanOf_5 2 rfl ?_
  refine z_iload_n X dX12_spanOf_6 3 rfl ?_
  refine z_iload X dX12_spanOf_7 4 rfl ?_
  obtain ⟨r9, hr9, hf⟩ := obE hf
  refine y_S1 X cs_RX12_241 dX12_spanOf_9 (c_M_place d (Nat.zero_le _) l1 l2 l3 l4 h r9 hr9) (as := [(0, l1), (0, l2), (0, l3), (0, l4)]) rfl rfl (Nat.le_of_ble_eq_true rfl) z00 ?_
  obtain ⟨g2, hf⟩ := gif hf
  refine y_iald X dX12_spanOf_12 g2 ?_
  cases hf
  exact z_iret X hK dX12_spanOf_13
set_option maxHeartbeats 4000000 in
set_option maxRecDepth 100000 in
theorem z_M_forgets_L2 {g : GP} {x : CX} {d : Nat} (X : zX g x RX12 cX12_forgets 2 d) (l0 : Int)  (E : Hp → Prop) (hx0 : ∀ e : Hp, E (e) → ZV g x 2 e 46 [] []) (l1 : Int) (h : Hp) (y : (Int × Hp) ⊕ (Hp)) (hf : M_forgets_L2 l0 l1 h = some y) (hk : z_sum (fun q : Int × Hp => ZV g x 2 q.2 2 [(0, (2, l0)), (1, (0, q.1))] []) E y) : ZV g x 2 h 2 [(0, (2, l0)), (1, (0, l1))] [] := by
  unfold M_forgets_L2 at hf
  refine z_iload_n X dX12_forgets_2 1 rfl ?_
  refine z_ldc X ki_RX12_200 kc_43200 dX12_forgets_3 ?_
  refine z_icmp_ge X dX12_forgets_5 rfl (fun hc5 => ?_) (fun hc5 => ?_)
  · have hf := ift hc5 hf
    cases hf
    exact z_weak [] rfl (hx0 _ hk)
  · have hf := iff' hc5 hf
    refine z_aload_n X dX12_forgets_8 0 rfl ?_
    obtain ⟨g1, hf⟩ := gif hf
    refine y_get X fl_RX12_201 dX12_forgets_9 g1 ?_
    refine z_iload_n X dX12_forgets_12 1 rfl ?_
    refine z_ldc2 X kj_RX12_247 kl_m9 dX12_forgets_13 ?_
    obtain ⟨g2, hf⟩ := gif hf
    refine y_last X dX12_forgets_16 g2 ?_
    let h_1 : Hp := hput h (h l0 41) l1 ((-9))
    refine z_aload_n X dX12_forgets_17 0 rfl ?_
    refine y_get X fl_RX12_205 dX12_forgets_18 g1 ?_
    refine z_iload_n X dX12_forgets_21 1 rfl ?_
    refine z_bipush X dX12_forgets_22 kb_m9 kc_m9 ?_
    obtain ⟨g3, hf⟩ := gif hf
    refine y_iast X dX12_forgets_24 g3 ?_
    let h_2 : Hp := hput h_1 (h_1 l0 42) l1 ((-9))
    refine z_aload_n X dX12_forgets_25 0 rfl ?_
    refine y_get X fl_RX12_208 dX12_forgets_26 g1 ?_
    refine z_iload_n X dX12_forgets_29 1 rfl ?_
    refine z_bipush X dX12_forgets_30 kb_m9 kc_m9 ?_
    obtain ⟨g4, hf⟩ := gif hf
    refine y_iast X dX12_forgets_32 g4 ?_
    let h_3 : Hp := hput h_2 (h_2 l0 43) l1 ((-9))
    refine z_aload_n X dX12_forgets_33 0 rfl ?_
    refine y_get X fl_RX12_211 dX12_forgets_34 g1 ?_
    refine z_iload_n X dX12_forgets_37 1 rfl ?_
    refine z_iconst X dX12_forgets_38 kc_0 ?_
    obtain ⟨g5, hf⟩ := gif hf
    refine y_zast X dX12_forgets_39 g5 (Or.inl rfl) ?_
    let h_4 : Hp := hput h_3 (h_3 l0 44) l1 0
    refine z_iinc X dX12_forgets_40 1 rfl (by decide) (ls' := [(1, (0, w32 (l1 + 1))), (0, (2, l0))]) rfl ?_
    refine z_goto X dX12_forgets_43 rfl ?_
    cases hf
    exact z_weak [1, 0] rfl hk
set_option maxHeartbeats 4000000 in
set_option maxRecDepth 100000 in
theorem c_M_forgets {l : Launch} {g : GP} (d : Nat) (hd : 0 ≤ d) (l0 : Int) (h : Hp) (y : Hp) (hf : M_forgets l0 h = some y) : zM l yX12_forgets cX12_forgets 2 none d 0 0 g 157 h [(2, l0)] 157 y none := by
  refine z_start (by decide) (Nat.le_of_ble_eq_true rfl) (fun x X hK _ _ _ hl => ?_)
  show ZV g x 2 h 0 [(0, (2, l0))] []
  unfold M_forgets at hf
  refine z_iconst X dX12_forgets_0 kc_0 ?_
  refine z_istore_n X dX12_forgets_1 (by decide) (ls' := [(1, (0, 0)), (0, (2, l0))]) rfl ?_
  obtain ⟨q2, hq2, hf⟩ := obE hf
  have hx2_0 : ∀ e46 : Hp, (e46 : Hp) = q2 → ZV g x 2 e46 46 [] [] := by
    intro e46 hq
    subst hq
    cases hf
    exact z_vret X hK dX12_forgets_46
  exact z_weak [1, 0] rfl (z_loop (Z := (fun q : Int × Hp => ZV g x 2 q.2 2 [(0, (2, l0)), (1, (0, q.1))] [])) (E := fun q => q = q2) (fun q y hb hk => z_M_forgets_L2 X l0 (fun q => q = q2) hx2_0 q.1 q.2 y hb hk) LN (0, h) q2 hq2 rfl)
set_option maxHeartbeats 4000000 in
set_option maxRecDepth 100000 in
theorem z_M_looksAt_L14 {g : GP} {x : CX} {d : Nat} (X : zX g x RX12 cX12_looksAt 3 (d + 1)) (hd : 0 ≤ d) (l0 l1 : Int)  (E : Hp → Prop) (hx0 : ∀ e : Hp, E (e) → ZV g x 3 e 40 [(0, (2, l0)), (1, (0, l1))] []) (l2 : Int) (h : Hp) (y : (Int × Hp) ⊕ (Hp)) (hf : M_looksAt_L14 l0 l1 l2 h = some y) (hk : z_sum (fun q : Int × Hp => ZV g x 3 q.2 14 [(0, (2, l0)), (1, (0, l1)), (2, (0, q.1))] []) E y) : ZV g x 3 h 14 [(0, (2, l0)), (1, (0, l1)), (2, (0, l2))] [] := by
  unfold M_looksAt_L14 at hf
  refine z_iload_n X dX12_looksAt_14 2 rfl ?_
  refine z_aload_n X dX12_looksAt_15 0 rfl ?_
  obtain ⟨g2, hf⟩ := gif hf
  refine y_get X fl_RX12_249 dX12_looksAt_16 g2 ?_
  refine z_icmp_ge X dX12_looksAt_19 rfl (fun hc19 => ?_) (fun hc19 => ?_)
  · have hf := ift hc19 hf
    cases hf
    exact z_weak [0, 1] rfl (hx0 _ hk)
  · have hf := iff' hc19 hf
    refine z_aload_n X dX12_looksAt_22 0 rfl ?_
    refine y_get X fl_RX12_182 dX12_looksAt_23 g2 ?_
    refine z_iload_n X dX12_looksAt_26 2 rfl ?_
    refine z_aload_n X dX12_looksAt_27 0 rfl ?_
    refine y_get X fl_RX12_174 dX12_looksAt_28 g2 ?_
    refine z_iload_n X dX12_looksAt_31 2 rfl ?_
    obtain ⟨g3, hf⟩ := gif hf
    refine y_iald X dX12_looksAt_32 g3 ?_
    obtain ⟨g4, hf⟩ := gif hf
    refine y_iast X dX12_looksAt_33 g4 ?_
    let h_2 : Hp := hput h (h l0 33) l2 (h (h l0 31) l2)
    refine z_iinc X dX12_looksAt_34 2 rfl (by decide) (ls' := [(2, (0, w32 (l2 + 1))), (0, (2, l0)), (1, (0, l1))]) rfl ?_
    refine z_goto X dX12_looksAt_37 rfl ?_
    cases hf
    exact z_weak [1, 2, 0] rfl hk
set_option maxHeartbeats 4000000 in
set_option maxRecDepth 100000 in
theorem c_M_looksAt {l : Launch} {g : GP} (d : Nat) (hd : 1 ≤ d) (l0 l1 : Int) (h : Hp) (y : Hp) (hf : M_looksAt l0 l1 h = some y) : zM l yX12_looksAt cX12_looksAt 3 none d 0 0 g 157 h [(2, l0), (0, l1)] 157 y none := by
  obtain ⟨d, rfl⟩ : ∃ k, d = k + 1 := ⟨d - 1, by omega⟩
  replace hd : 0 ≤ d := Nat.le_of_succ_le_succ hd
  refine z_start (by decide) (Nat.le_of_ble_eq_true rfl) (fun x X hK _ _ _ hl => ?_)
  show ZV g x 3 h 0 [(0, (2, l0)), (1, (0, l1))] []
  unfold M_looksAt at hf
  refine z_aload_n X dX12_looksAt_0 0 rfl ?_
  obtain ⟨g1, hf⟩ := gif hf
  obtain ⟨r1, hr1, hf⟩ := obE hf
  refine y_V0 X cv_RX12_244 dX12_looksAt_1 g1 (c_M_forgets d (Nat.zero_le _) l0 h r1 hr1) (as := []) rfl rfl (Nat.le_of_ble_eq_true rfl) z00 ?_
  refine z_aload_n X dX12_looksAt_4 0 rfl ?_
  refine z_aload_n X dX12_looksAt_5 0 rfl ?_
  refine y_get X fl_RX12_171 dX12_looksAt_6 g1 ?_
  refine y_put X fl_RX12_249 dX12_looksAt_9 g1 rfl (by decide) ?_
  let h_1 : Hp := hput r1 l0 34 (r1 l0 32)
  refine z_iconst X dX12_looksAt_12 kc_0 ?_
  refine z_istore_n X dX12_looksAt_13 (by decide) (ls' := [(2, (0, 0)), (0, (2, l0)), (1, (0, l1))]) rfl ?_
  obtain ⟨q14, hq14, hf⟩ := obE hf
  have hx14_0 : ∀ e40 : Hp, (e40 : Hp) = q14 → ZV g x 3 e40 40 [(0, (2, l0)), (1, (0, l1))] [] := by
    intro e40 hq
    subst hq
    refine z_aload_n X dX12_looksAt_40 0 rfl ?_
    refine z_aload_n X dX12_looksAt_41 0 rfl ?_
    refine y_get X fl_RX12_26 dX12_looksAt_42 g1 ?_
    refine z_iload_n X dX12_looksAt_45 1 rfl ?_
    refine z_ior X dX12_looksAt_46 ?_
    refine y_put X fl_RX12_252 dX12_looksAt_47 g1 rfl (by decide) ?_
    let h_3 : Hp := hput e40 l0 35 (i_or (e40 l0 3) l1)
    cases hf
    exact z_vret X hK dX12_looksAt_50
  exact z_weak [1, 2, 0] rfl (z_loop (Z := (fun q : Int × Hp => ZV g x 3 q.2 14 [(0, (2, l0)), (1, (0, l1)), (2, (0, q.1))] [])) (E := fun q => q = q14) (fun q y hb hk => z_M_looksAt_L14 X hd l0 l1 (fun q => q = q14) hx14_0 q.1 q.2 y hb hk) LN (0, h_1) q14 hq14 rfl)
set_option maxHeartbeats 4000000 in
set_option maxRecDepth 100000 in
theorem c_M_sum {l : Launch} {g : GP} (d : Nat) (hd : 1 ≤ d) (l0 l2 : Int) (h : Hp) (y : Int) (hf : M_sum l0 l2 = some y) : zM l yX12_sum cX12_sum 4 (some .long) d 0 0 g 157 h [(1, l0), (1, l2)] 157 h (some (1, y)) := by
  obtain ⟨d, rfl⟩ : ∃ k, d = k + 1 := ⟨d - 1, by omega⟩
  replace hd : 0 ≤ d := Nat.le_of_succ_le_succ hd
  refine z_start (by decide) (Nat.le_of_ble_eq_true rfl) (fun x X hK _ _ _ hl => ?_)
  show ZV g x 4 h 0 [(0, (1, l0)), (2, (1, l2))] []
  unfold M_sum at hf
  refine z_ldc2 X kj_RX12_255 kl_1000000000000001 dX12_sum_0 ?_
  refine z_lload_n X dX12_sum_3 0 rfl ?_
  refine z_lload_n X dX12_sum_4 1 rfl ?_
  refine z_ladd X dX12_sum_5 ?_
  refine y_minL X cm_RX12_257 dX12_sum_6 (Nat.le_of_ble_eq_true rfl) ?_
  cases hf
  exact z_lret X hK dX12_sum_9
set_option maxHeartbeats 4000000 in
set_option maxRecDepth 100000 in
theorem c_M_product {l : Launch} {g : GP} (d : Nat) (hd : 0 ≤ d) (l0 l2 : Int) (h : Hp) (y : Int) (hf : M_product l0 l2 = some y) : zM l yX12_product cX12_product 4 (some .long) d 0 0 g 157 h [(1, l0), (1, l2)] 157 h (some (1, y)) := by
  refine z_start (by decide) (Nat.le_of_ble_eq_true rfl) (fun x X hK _ _ _ hl => ?_)
  show ZV g x 4 h 0 [(0, (1, l0)), (2, (1, l2))] []
  unfold M_product at hf
  refine z_lload_n X dX12_product_0 0 rfl ?_
  refine z_lconst0 X dX12_product_1 ?_
  refine z_l_eq X dX12_product_2 dX12_product_3 rfl (fun hc2 => ?_) (fun hc2 => ?_)
  · have hf := ift hc2 hf
    refine z_lconst0 X dX12_product_12 ?_
    cases hf
    exact z_lret X hK dX12_product_13
  · have hf := iff' hc2 hf
    refine z_lload_n X dX12_product_6 1 rfl ?_
    refine z_lconst0 X dX12_product_7 ?_
    refine z_l_ne X dX12_product_8 dX12_product_9 rfl (fun hc8 => ?_) (fun hc8 => ?_)
    · have hf := iff' hc8 hf
      refine z_lload_n X dX12_product_14 0 rfl ?_
      refine z_ldc2 X kj_RX12_263 kl_1000000000000000 dX12_product_15 ?_
      refine z_lload_n X dX12_product_18 1 rfl ?_
      obtain ⟨g1, hf⟩ := gif hf
      refine z_ldiv X dX12_product_19 g1 ?_
      refine z_l_le X dX12_product_20 dX12_product_21 rfl (fun hc20 => ?_) (fun hc20 => ?_)
      · rw [if_pos hc20] at hf
        refine z_lload_n X dX12_product_30 0 rfl ?_
        refine z_lload_n X dX12_product_31 1 rfl ?_
        refine z_lmul X dX12_product_32 ?_
        cases hf
        exact z_lret X hK dX12_product_33
      · rw [if_neg hc20] at hf
        refine z_ldc2 X kj_RX12_255 kl_1000000000000001 dX12_product_24 ?_
        refine z_goto X dX12_product_27 rfl ?_
        cases hf
        exact z_lret X hK dX12_product_33
    · have hf := ift hc8 hf
      refine z_lconst0 X dX12_product_12 ?_
      cases hf
      exact z_lret X hK dX12_product_13
set_option maxHeartbeats 4000000 in
set_option maxRecDepth 100000 in
theorem z_M_mayGo_j38 {g : GP} {x : CX} {d : Nat} (X : zX g x RX12 cX12_mayGo 4 (d + 1)) (hd : 0 ≤ d) (h : Hp) (y : Int) (hf : M_mayGo_j38 h = some y) (hK : zE g x (some .boolean) 0 0 157 h (some (0, y))) : ZV g x 4 h 38 [] [] := by
  unfold M_mayGo_j38 at hf
  refine z_iconst X dX12_mayGo_38 kc_0 ?_
  cases hf
  exact z_zret X hK (Or.inl rfl) dX12_mayGo_39
set_option maxHeartbeats 4000000 in
set_option maxRecDepth 100000 in
theorem c_M_mayGo {l : Launch} {g : GP} (d : Nat) (hd : 1 ≤ d) (l0 l1 l2 l3 : Int) (h : Hp) (y : Int) (hf : M_mayGo l0 l1 l2 l3 h = some y) : zM l yX12_mayGo cX12_mayGo 4 (some .boolean) d 0 0 g 157 h [(2, l0), (0, l1), (0, l2), (0, l3)] 157 h (some (0, y)) := by
  obtain ⟨d, rfl⟩ : ∃ k, d = k + 1 := ⟨d - 1, by omega⟩
  replace hd : 0 ≤ d := Nat.le_of_succ_le_succ hd
  refine z_start (by decide) (Nat.le_of_ble_eq_true rfl) (fun x X hK _ _ _ hl => ?_)
  show ZV g x 4 h 0 [(0, (2, l0)), (1, (0, l1)), (2, (0, l2)), (3, (0, l3))] []
  unfold M_mayGo at hf
  refine z_aload_n X dX12_mayGo_0 0 rfl ?_
  refine z_iload_n X dX12_mayGo_1 1 rfl ?_
  obtain ⟨g1, hf⟩ := gif hf
  obtain ⟨r2, hr2, hf⟩ := obE hf
  refine y_V1 X cv_RX12_265 dX12_mayGo_2 g1 (c_M_isGuest d (Nat.zero_le _) l0 l1 h r2 hr2) (as := [(0, l1)]) rfl rfl (Nat.le_of_ble_eq_true rfl) z00 ?_
  refine z_iload_n X dX12_mayGo_5 3 rfl ?_
  refine z_icmp_ne X dX12_mayGo_6 rfl (fun hc6 => ?_) (fun hc6 => ?_)
  · have hf := iff' hc6 hf
    exact z_weak [] rfl (z_M_mayGo_j38 X hd  h _ hf hK)
  · have hf := ift hc6 hf
    refine z_aload_n X dX12_mayGo_9 0 rfl ?_
    refine y_get X fl_RX12_101 dX12_mayGo_10 g1 ?_
    refine z_aload_n X dX12_mayGo_13 0 rfl ?_
    refine z_iload_n X dX12_mayGo_14 1 rfl ?_
    obtain ⟨r15, hr15, hf⟩ := obE hf
    refine y_V1 X cv_RX12_268 dX12_mayGo_15 g1 (c_M_root d (Nat.zero_le _) l0 l1 h r15 hr15) (as := [(0, l1)]) rfl rfl (Nat.le_of_ble_eq_true rfl) z00 ?_
    obtain ⟨g2, hf⟩ := gif hf
    refine y_iald X dX12_mayGo_18 g2 ?_
    refine z_iload_n X dX12_mayGo_19 2 rfl ?_
    refine z_icmp_ne X dX12_mayGo_20 rfl (fun hc20 => ?_) (fun hc20 => ?_)
    · have hf := iff' hc20 hf
      exact z_weak [] rfl (z_M_mayGo_j38 X hd  h _ hf hK)
    · have hf := ift hc20 hf
      refine z_aload_n X dX12_mayGo_23 0 rfl ?_
      refine y_get X fl_RX12_252 dX12_mayGo_24 g1 ?_
      refine z_iload_n X dX12_mayGo_27 1 rfl ?_
      refine z_ishr X dX12_mayGo_28 ?_
      refine z_iconst X dX12_mayGo_29 kc_1 ?_
      refine z_iand X dX12_mayGo_30 ?_
      refine z_if_ne X dX12_mayGo_31 rfl (fun hc31 => ?_) (fun hc31 => ?_)
      · have hf := iff' hc31 hf
        exact z_weak [] rfl (z_M_mayGo_j38 X hd  h _ hf hK)
      · have hf := ift hc31 hf
        refine z_iconst X dX12_mayGo_34 kc_1 ?_
        refine z_goto X dX12_mayGo_35 rfl ?_
        cases hf
        exact z_zret X hK (Or.inr rfl) dX12_mayGo_39
set_option maxHeartbeats 4000000 in
set_option maxRecDepth 100000 in
theorem c_M_gap {l : Launch} {g : GP} (d : Nat) (hd : 0 ≤ d) (l0 l1 : Int) (h : Hp) (y : Int) (hf : M_gap l0 l1 = some y) : zM l yX12_gap cX12_gap 2 (some .int) d 0 0 g 157 h [(0, l0), (0, l1)] 157 h (some (0, y)) := by
  refine z_start (by decide) (Nat.le_of_ble_eq_true rfl) (fun x X hK _ _ _ hl => ?_)
  show ZV g x 2 h 0 [(0, (0, l0)), (1, (0, l1))] []
  unfold M_gap at hf
  refine z_iload_n X dX12_gap_0 0 rfl ?_
  refine z_iconst X dX12_gap_1 kc_m1 ?_
  refine z_icmp_ne X dX12_gap_2 rfl (fun hc2 => ?_) (fun hc2 => ?_)
  · rw [if_neg hc2] at hf
    refine z_iload_n X dX12_gap_9 1 rfl ?_
    refine z_iload_n X dX12_gap_10 0 rfl ?_
    refine z_isub X dX12_gap_11 ?_
    cases hf
    exact z_iret X hK dX12_gap_12
  · rw [if_pos hc2] at hf
    refine z_iconst X dX12_gap_5 kc_0 ?_
    refine z_goto X dX12_gap_6 rfl ?_
    cases hf
    exact z_iret X hK dX12_gap_12
set_option maxHeartbeats 4000000 in
set_option maxRecDepth 100000 in
theorem c_M_hasRoom {l : Launch} {g : GP} (d : Nat) (hd : 1 ≤ d) (l0 l1 l2 l3 l4 l5 : Int) (h : Hp) (y : Int) (hf : M_hasRoom l0 l1 l2 l3 l4 l5 h = some y) : zM l yX12_hasRoom cX12_hasRoom 6 (some .boolean) d 0 0 g 157 h [(2, l0), (0, l1), (0, l2), (0, l3), (0, l4), (0, l5)] 157 h (some (0, y)) := by
  obtain ⟨d, rfl⟩ : ∃ k, d = k + 1 := ⟨d - 1, by omega⟩
  replace hd : 0 ≤ d := Nat.le_of_succ_le_succ hd
  refine z_start (by decide) (Nat.le_of_ble_eq_true rfl) (fun x X hK _ _ _ hl => ?_)
  show ZV g x 6 h 0 [(0, (2, l0)), (1, (0, l1)), (2, (0, l2)), (3, (0, l3)), (4, (0, l4)), (5, (0, l5))] []
  unfold M_hasRoom at hf
  refine z_iload_n X dX12_hasRoom_0 3 rfl ?_
  refine z_iload_n X dX12_hasRoom_1 2 rfl ?_
  refine z_isub X dX12_hasRoom_2 ?_
  refine z_iload X dX12_hasRoom_3 4 rfl ?_
  refine z_iload X dX12_hasRoom_5 5 rfl ?_
  obtain ⟨r7, hr7, hf⟩ := obE hf
  refine y_S1 X cs_RX12_271 dX12_hasRoom_7 (c_M_gap d (Nat.zero_le _) l4 l5 h r7 hr7) (as := [(0, l4), (0, l5)]) rfl rfl (Nat.le_of_ble_eq_true rfl) z00 ?_
  refine z_isub X dX12_hasRoom_10 ?_
  refine z_aload_n X dX12_hasRoom_11 0 rfl ?_
  obtain ⟨g1, hf⟩ := gif hf
  refine y_get X fl_RX12_164 dX12_hasRoom_12 g1 ?_
  refine z_iload_n X dX12_hasRoom_15 1 rfl ?_
  obtain ⟨g2, hf⟩ := gif hf
  refine y_iald X dX12_hasRoom_16 g2 ?_
  refine z_icmp_lt X dX12_hasRoom_17 rfl (fun hc17 => ?_) (fun hc17 => ?_)
  · rw [if_pos hc17] at hf
    refine z_iconst X dX12_hasRoom_24 kc_0 ?_
    cases hf
    exact z_zret X hK (Or.inl rfl) dX12_hasRoom_25
  · rw [if_neg hc17] at hf
    refine z_iconst X dX12_hasRoom_20 kc_1 ?_
    refine z_goto X dX12_hasRoom_21 rfl ?_
    cases hf
    exact z_zret X hK (Or.inr rfl) dX12_hasRoom_25
set_option maxHeartbeats 4000000 in
set_option maxRecDepth 100000 in
theorem c_M_keyOf {l : Launch} {g : GP} (d : Nat) (hd : 0 ≤ d) (l0 l1 l2 : Int) (h : Hp) (y : Int) (hf : M_keyOf l0 l1 l2 = some y) : zM l yX12_keyOf cX12_keyOf 3 (some .int) d 0 0 g 157 h [(0, l0), (0, l1), (0, l2)] 157 h (some (0, y)) := by
  refine z_start (by decide) (Nat.le_of_ble_eq_true rfl) (fun x X hK _ _ _ hl => ?_)
  show ZV g x 3 h 0 [(0, (0, l0)), (1, (0, l1)), (2, (0, l2))] []
  unfold M_keyOf at hf
  refine z_iload_n X dX12_keyOf_0 0 rfl ?_
  refine z_bipush X dX12_keyOf_1 kb_40 kc_40 ?_
  refine z_imul X dX12_keyOf_3 ?_
  refine z_iload_n X dX12_keyOf_4 1 rfl ?_
  refine z_iadd X dX12_keyOf_5 ?_
  refine z_sipush X dX12_keyOf_6 ks_540 kc_540 ?_
  refine z_imul X dX12_keyOf_9 ?_
  refine z_iload_n X dX12_keyOf_10 2 rfl ?_
  refine z_iadd X dX12_keyOf_11 ?_
  cases hf
  exact z_iret X hK dX12_keyOf_12
set_option maxHeartbeats 4000000 in
set_option maxRecDepth 100000 in
theorem z_M_canSplit_j129 {g : GP} {x : CX} {d : Nat} (X : zX g x RX12 cX12_canSplit 9 (d + 1)) (hd : 1 ≤ d) (h : Hp) (y : Int) (hf : M_canSplit_j129 h = some y) (hK : zE g x (some .boolean) 0 0 157 h (some (0, y))) : ZV g x 9 h 129 [] [] := by
  unfold M_canSplit_j129 at hf
  refine z_iconst X dX12_canSplit_129 kc_0 ?_
  cases hf
  exact z_zret X hK (Or.inl rfl) dX12_canSplit_130
set_option maxHeartbeats 4000000 in
set_option maxRecDepth 100000 in
theorem z_M_canSplit_j119 {g : GP} {x : CX} {d : Nat} (X : zX g x RX12 cX12_canSplit 9 (d + 1)) (hd : 1 ≤ d) (s0 s1 s2 s3 s4 s5 : Int) (h : Hp) (y : Int) (hf : M_canSplit_j119 s0 s1 s2 s3 s4 s5 h = some y) (hK : zE g x (some .boolean) 0 0 157 h (some (0, y))) : ZV g x 9 h 119 [] [(0, s0), (0, s1), (0, s2), (0, s3), (0, s4), (2, s5)] := by
  unfold M_canSplit_j119 at hf
  obtain ⟨g11, hf⟩ := gif hf
  obtain ⟨r119, hr119, hf⟩ := obE hf
  refine y_V1 X cv_RX12_274 dX12_canSplit_119 g11 (c_M_hasRoom d (Nat.le_trans (by decide) hd) s5 s4 s3 s2 s1 s0 h r119 hr119) (as := [(0, s4), (0, s3), (0, s2), (0, s1), (0, s0)]) rfl rfl (Nat.le_of_ble_eq_true rfl) z00 ?_
  refine z_if_eq X dX12_canSplit_122 rfl (fun hc122 => ?_) (fun hc122 => ?_)
  · have hf := ift hc122 hf
    exact (z_M_canSplit_j129 X hd  h _ hf hK)
  · have hf := iff' hc122 hf
    refine z_iconst X dX12_canSplit_125 kc_1 ?_
    refine z_goto X dX12_canSplit_126 rfl ?_
    cases hf
    exact z_zret X hK (Or.inr rfl) dX12_canSplit_130
set_option maxHeartbeats 4000000 in
set_option maxRecDepth 100000 in
theorem z_M_canSplit_j108 {g : GP} {x : CX} {d : Nat} (X : zX g x RX12 cX12_canSplit 9 (d + 1)) (hd : 1 ≤ d) (l6 l8 s0 s1 s2 s3 s4 : Int) (h : Hp) (y : Int) (hf : M_canSplit_j108 l6 l8 s0 s1 s2 s3 s4 h = some y) (hK : zE g x (some .boolean) 0 0 157 h (some (0, y))) : ZV g x 9 h 108 [(6, (0, l6)), (8, (0, l8))] [(0, s0), (0, s1), (0, s2), (0, s3), (2, s4)] := by
  unfold M_canSplit_j108 at hf
  refine z_iload X dX12_canSplit_108 1 rfl ?_
  refine z_if_eq X dX12_canSplit_110 rfl (fun hc110 => ?_) (fun hc110 => ?_)
  · rw [if_pos hc110] at hf
    refine z_iconst X dX12_canSplit_118 kc_m1 ?_
    exact z_weak [] rfl (z_M_canSplit_j119 X hd ((-1)) s0 s1 s2 s3 s4 h _ hf hK)
  · rw [if_neg hc110] at hf
    refine z_iload X dX12_canSplit_113 0 rfl ?_
    refine z_goto X dX12_canSplit_115 rfl ?_
    exact z_weak [] rfl (z_M_canSplit_j119 X hd l6 s0 s1 s2 s3 s4 h _ hf hK)
set_option maxHeartbeats 4000000 in
set_option maxRecDepth 100000 in
theorem z_M_canSplit_j81 {g : GP} {x : CX} {d : Nat} (X : zX g x RX12 cX12_canSplit 9 (d + 1)) (hd : 1 ≤ d) (l0 l1 l3 l4 l5 l6 l8 s0 s1 s2 s3 s4 s5 : Int) (h : Hp) (y : Int) (hf : M_canSplit_j81 l0 l1 l3 l4 l5 l6 l8 s0 s1 s2 s3 s4 s5 h = some y) (hK : zE g x (some .boolean) 0 0 157 h (some (0, y))) : ZV g x 9 h 81 [(0, (2, l0)), (1, (0, l1)), (3, (0, l3)), (4, (0, l4)), (5, (0, l5)), (6, (0, l6)), (8, (0, l8))] [(0, s0), (0, s1), (0, s2), (0, s3), (0, s4), (2, s5)] := by
  unfold M_canSplit_j81 at hf
  obtain ⟨g8, hf⟩ := gif hf
  obtain ⟨r81, hr81, hf⟩ := obE hf
  refine y_V1 X cv_RX12_274 dX12_canSplit_81 g8 (c_M_hasRoom d (Nat.le_trans (by decide) hd) s5 s4 s3 s2 s1 s0 h r81 hr81) (as := [(0, s4), (0, s3), (0, s2), (0, s1), (0, s0)]) rfl rfl (Nat.le_of_ble_eq_true rfl) z00 ?_
  refine z_if_eq X dX12_canSplit_84 rfl (fun hc84 => ?_) (fun hc84 => ?_)
  · have hf := ift hc84 hf
    exact z_weak [] rfl (z_M_canSplit_j129 X hd  h _ hf hK)
  · have hf := iff' hc84 hf
    refine z_aload_n X dX12_canSplit_87 0 rfl ?_
    refine z_aload_n X dX12_canSplit_88 0 rfl ?_
    obtain ⟨g9, hf⟩ := gif hf
    refine y_get X fl_RX12_110 dX12_canSplit_89 g9 ?_
    refine z_iload_n X dX12_canSplit_92 1 rfl ?_
    obtain ⟨g10, hf⟩ := gif hf
    refine y_iald X dX12_canSplit_93 g10 ?_
    refine z_iload_n X dX12_canSplit_94 2 rfl ?_
    refine z_iload X dX12_canSplit_95 3 rfl ?_
    refine z_iload X dX12_canSplit_97 6 rfl ?_
    refine z_if_eq X dX12_canSplit_99 rfl (fun hc99 => ?_) (fun hc99 => ?_)
    · rw [if_pos hc99] at hf
      refine z_iconst X dX12_canSplit_107 kc_m1 ?_
      exact z_weak [5, 6] rfl (z_M_canSplit_j108 X hd l6 l8 ((-1)) l4 l3 (h (h l0 9) l1) l0 h _ hf hK)
    · rw [if_neg hc99] at hf
      refine z_iload X dX12_canSplit_102 4 rfl ?_
      refine z_goto X dX12_canSplit_104 rfl ?_
      exact z_weak [5, 6] rfl (z_M_canSplit_j108 X hd l6 l8 l5 l4 l3 (h (h l0 9) l1) l0 h _ hf hK)
set_option maxHeartbeats 4000000 in
set_option maxRecDepth 100000 in
theorem z_M_canSplit_j70 {g : GP} {x : CX} {d : Nat} (X : zX g x RX12 cX12_canSplit 9 (d + 1)) (hd : 1 ≤ d) (l0 l1 l3 l4 l5 l6 l7 l8 s0 s1 s2 s3 s4 : Int) (h : Hp) (y : Int) (hf : M_canSplit_j70 l0 l1 l3 l4 l5 l6 l7 l8 s0 s1 s2 s3 s4 h = some y) (hK : zE g x (some .boolean) 0 0 157 h (some (0, y))) : ZV g x 9 h 70 [(0, (2, l0)), (1, (0, l1)), (3, (0, l3)), (4, (0, l4)), (5, (0, l5)), (6, (0, l6)), (7, (0, l7)), (8, (0, l8))] [(0, s0), (0, s1), (0, s2), (0, s3), (2, s4)] := by
  unfold M_canSplit_j70 at hf
  refine z_iload X dX12_canSplit_70 6 rfl ?_
  refine z_if_eq X dX12_canSplit_72 rfl (fun hc72 => ?_) (fun hc72 => ?_)
  · rw [if_pos hc72] at hf
    refine z_iconst X dX12_canSplit_80 kc_m1 ?_
    exact z_weak [0, 1, 2, 3, 4, 5, 7] rfl (z_M_canSplit_j81 X hd l0 l1 l3 l4 l5 l6 l8 ((-1)) s0 s1 s2 s3 s4 h _ hf hK)
  · rw [if_neg hc72] at hf
    refine z_iload X dX12_canSplit_75 5 rfl ?_
    refine z_goto X dX12_canSplit_77 rfl ?_
    exact z_weak [0, 1, 2, 3, 4, 5, 7] rfl (z_M_canSplit_j81 X hd l0 l1 l3 l4 l5 l6 l8 l6 s0 s1 s2 s3 s4 h _ hf hK)
set_option maxHeartbeats 4000000 in
set_option maxRecDepth 100000 in
theorem z_M_canSplit_j50 {g : GP} {x : CX} {d : Nat} (X : zX g x RX12 cX12_canSplit 9 (d + 1)) (hd : 1 ≤ d) (l0 l1 l2 l3 l4 l5 l6 l7 l8 : Int) (h : Hp) (y : Int) (hf : M_canSplit_j50 l0 l1 l2 l3 l4 l5 l6 l7 l8 h = some y) (hK : zE g x (some .boolean) 0 0 157 h (some (0, y))) : ZV g x 9 h 50 [(0, (2, l0)), (1, (0, l1)), (2, (0, l2)), (3, (0, l3)), (4, (0, l4)), (5, (0, l5)), (6, (0, l6)), (7, (0, l7)), (8, (0, l8))] [] := by
  unfold M_canSplit_j50 at hf
  refine z_aload_n X dX12_canSplit_50 0 rfl ?_
  refine z_aload_n X dX12_canSplit_51 0 rfl ?_
  obtain ⟨g6, hf⟩ := gif hf
  refine y_get X fl_RX12_107 dX12_canSplit_52 g6 ?_
  refine z_iload_n X dX12_canSplit_55 1 rfl ?_
  obtain ⟨g7, hf⟩ := gif hf
  refine y_iald X dX12_canSplit_56 g7 ?_
  refine z_iload_n X dX12_canSplit_57 2 rfl ?_
  refine z_iload_n X dX12_canSplit_58 3 rfl ?_
  refine z_iload X dX12_canSplit_59 7 rfl ?_
  refine z_if_eq X dX12_canSplit_61 rfl (fun hc61 => ?_) (fun hc61 => ?_)
  · rw [if_pos hc61] at hf
    refine z_iconst X dX12_canSplit_69 kc_m1 ?_
    exact z_weak [0, 1, 3, 4, 5, 6, 7, 8] rfl (z_M_canSplit_j70 X hd l0 l1 l3 l4 l5 l6 l7 l8 ((-1)) l3 l2 (h (h l0 8) l1) l0 h _ hf hK)
  · rw [if_neg hc61] at hf
    refine z_iload X dX12_canSplit_64 5 rfl ?_
    refine z_goto X dX12_canSplit_66 rfl ?_
    exact z_weak [0, 1, 3, 4, 5, 6, 7, 8] rfl (z_M_canSplit_j70 X hd l0 l1 l3 l4 l5 l6 l7 l8 l5 l3 l2 (h (h l0 8) l1) l0 h _ hf hK)
set_option maxHeartbeats 4000000 in
set_option maxRecDepth 100000 in
theorem z_M_canSplit_j37 {g : GP} {x : CX} {d : Nat} (X : zX g x RX12 cX12_canSplit 9 (d + 1)) (hd : 1 ≤ d) (l0 l1 l2 l3 l4 l5 l6 l7 l8 : Int) (h : Hp) (y : Int) (hf : M_canSplit_j37 l0 l1 l2 l3 l4 l5 l6 l7 l8 h = some y) (hK : zE g x (some .boolean) 0 0 157 h (some (0, y))) : ZV g x 9 h 37 [(0, (2, l0)), (1, (0, l1)), (2, (0, l2)), (3, (0, l3)), (4, (0, l4)), (5, (0, l5)), (6, (0, l6)), (7, (0, l7)), (8, (0, l8))] [] := by
  unfold M_canSplit_j37 at hf
  refine z_iload X dX12_canSplit_37 8 rfl ?_
  refine z_if_eq X dX12_canSplit_39 rfl (fun hc39 => ?_) (fun hc39 => ?_)
  · have hf := ift hc39 hf
    exact (z_M_canSplit_j50 X hd l0 l1 l2 l3 l4 l5 l6 l7 l8 h _ hf hK)
  · have hf := iff' hc39 hf
    refine z_iload X dX12_canSplit_42 5 rfl ?_
    refine z_iload_n X dX12_canSplit_44 3 rfl ?_
    refine z_icmp_ge X dX12_canSplit_45 rfl (fun hc45 => ?_) (fun hc45 => ?_)
    · have hf := ift hc45 hf
      exact (z_M_canSplit_j50 X hd l0 l1 l2 l3 l4 l5 l6 l7 l8 h _ hf hK)
    · have hf := iff' hc45 hf
      refine z_iconst X dX12_canSplit_48 kc_0 ?_
      cases hf
      exact z_zret X hK (Or.inl rfl) dX12_canSplit_49
set_option maxHeartbeats 4000000 in
set_option maxRecDepth 100000 in
theorem c_M_canSplit {l : Launch} {g : GP} (d : Nat) (hd : 2 ≤ d) (l0 l1 l2 l3 l4 l5 l6 : Int) (h : Hp) (y : Int) (hf : M_canSplit l0 l1 l2 l3 l4 l5 l6 h = some y) : zM l yX12_canSplit cX12_canSplit 9 (some .boolean) d 0 0 g 157 h [(2, l0), (0, l1), (0, l2), (0, l3), (0, l4), (0, l5), (0, l6)] 157 h (some (0, y)) := by
  obtain ⟨d, rfl⟩ : ∃ k, d = k + 1 := ⟨d - 1, by omega⟩
  replace hd : 1 ≤ d := Nat.le_of_succ_le_succ hd
  refine z_start (by decide) (Nat.le_of_ble_eq_true rfl) (fun x X hK _ _ _ hl => ?_)
  show ZV g x 9 h 0 [(0, (2, l0)), (1, (0, l1)), (2, (0, l2)), (3, (0, l3)), (4, (0, l4)), (5, (0, l5)), (6, (0, l6))] []
  unfold M_canSplit at hf
  refine z_aload_n X dX12_canSplit_0 0 rfl ?_
  obtain ⟨g1, hf⟩ := gif hf
  refine y_get X fl_RX12_167 dX12_canSplit_1 g1 ?_
  refine z_aload_n X dX12_canSplit_4 0 rfl ?_
  refine y_get X fl_RX12_107 dX12_canSplit_5 g1 ?_
  refine z_iload_n X dX12_canSplit_8 1 rfl ?_
  obtain ⟨g2, hf⟩ := gif hf
  refine y_iald X dX12_canSplit_9 g2 ?_
  obtain ⟨g3, hf⟩ := gif hf
  refine y_zald X dX12_canSplit_10 g3 ?_
  refine z_istore X dX12_canSplit_11 (by decide) (ls' := [(7, (0, h (h l0 14) (h (h l0 8) l1))), (0, (2, l0)), (1, (0, l1)), (2, (0, l2)), (3, (0, l3)), (4, (0, l4)), (5, (0, l5)), (6, (0, l6))]) rfl ?_
  refine z_aload_n X dX12_canSplit_13 1 rfl ?_
  refine y_get X fl_RX12_167 dX12_canSplit_14 g1 ?_
  refine z_aload_n X dX12_canSplit_17 1 rfl ?_
  refine y_get X fl_RX12_110 dX12_canSplit_18 g1 ?_
  refine z_iload_n X dX12_canSplit_21 2 rfl ?_
  obtain ⟨g4, hf⟩ := gif hf
  refine y_iald X dX12_canSplit_22 g4 ?_
  obtain ⟨g5, hf⟩ := gif hf
  refine y_zald X dX12_canSplit_23 g5 ?_
  refine z_istore X dX12_canSplit_24 (by decide) (ls' := [(8, (0, h (h l0 14) (h (h l0 9) l1))), (7, (0, h (h l0 14) (h (h l0 8) l1))), (0, (2, l0)), (1, (0, l1)), (2, (0, l2)), (3, (0, l3)), (4, (0, l4)), (5, (0, l5)), (6, (0, l6))]) rfl ?_
  refine z_iload X dX12_canSplit_26 1 rfl ?_
  refine z_if_eq X dX12_canSplit_28 rfl (fun hc28 => ?_) (fun hc28 => ?_)
  · have hf := ift hc28 hf
    exact z_weak [2, 3, 4, 5, 6, 7, 8, 1, 0] rfl (z_M_canSplit_j37 X hd l0 l1 l2 l3 l4 l5 l6 (h (h l0 14) (h (h l0 8) l1)) (h (h l0 14) (h (h l0 9) l1)) h _ hf hK)
  · have hf := iff' hc28 hf
    refine z_iload X dX12_canSplit_31 8 rfl ?_
    refine z_iload_n X dX12_canSplit_33 5 rfl ?_
    refine z_icmp_gt X dX12_canSplit_34 rfl (fun hc34 => ?_) (fun hc34 => ?_)
    · have hf := ift hc34 hf
      refine z_iconst X dX12_canSplit_48 kc_0 ?_
      cases hf
      exact z_zret X hK (Or.inl rfl) dX12_canSplit_49
    · have hf := iff' hc34 hf
      exact z_weak [2, 3, 4, 5, 6, 7, 8, 1, 0] rfl (z_M_canSplit_j37 X hd l0 l1 l2 l3 l4 l5 l6 (h (h l0 14) (h (h l0 8) l1)) (h (h l0 14) (h (h l0 9) l1)) h _ hf hK)
def M_waysOf_G_IH (l : Launch) (g : GP) (d : Nat) : Prop := (∀ (l0 l1 l2 l3 l4 l5 l6 : Int) (h : Hp) (y : Int × Hp), M_waysOf_G d 0 [l0, l1, l2, l3, l4, l5, l6] h = some y → zM l yX12_waysOf cX12_waysOf 8 (some .long) d 0 0 g 157 h [(2, l0), (0, l1), (0, l2), (0, l3), (0, l4), (0, l5), (0, l6)] 157 y.2 (some (1, y.1))) ∧ (∀ (l0 l1 l2 l3 l4 l5 : Int) (h : Hp) (y : Int × Hp), M_waysOf_G d 1 [l0, l1, l2, l3, l4, l5] h = some y → zM l yX12_waysAbove cX12_waysAbove 11 (some .long) d 0 0 g 157 h [(2, l0), (0, l1), (0, l2), (0, l3), (0, l4), (0, l5)] 157 y.2 (some (1, y.1))) ∧ (∀ (l0 l1 l2 l3 l4 l5 l6 l7 l8 : Int) (h : Hp) (y : Int × Hp), M_waysOf_G d 2 [l0, l1, l2, l3, l4, l5, l6, l7, l8] h = some y → zM l yX12_waysAround cX12_waysAround 11 (some .long) d 0 0 g 157 h [(2, l0), (0, l1), (0, l2), (0, l3), (0, l4), (0, l5), (0, l6), (0, l7), (0, l8)] 157 y.2 (some (1, y.1))) ∧ (∀ (l0 l1 l2 l3 l4 l5 : Int) (h : Hp) (y : Int × Hp), M_waysOf_G d 3 [l0, l1, l2, l3, l4, l5] h = some y → zM l yX12_waysBelow cX12_waysBelow 9 (some .long) d 0 0 g 157 h [(2, l0), (0, l1), (0, l2), (0, l3), (0, l4), (0, l5)] 157 y.2 (some (1, y.1))) ∧ (∀ (l0 l1 l2 l3 : Int) (h : Hp) (y : Int × Hp), M_waysOf_G d 4 [l0, l1, l2, l3] h = some y → zM l yX12_waysHosts cX12_waysHosts 7 (some .long) d 0 0 g 157 h [(2, l0), (0, l1), (0, l2), (0, l3)] 157 y.2 (some (1, y.1))) ∧ (∀ (l0 l1 l2 l3 l4 l5 : Int) (h : Hp) (y : Int × Hp), M_waysOf_G d 5 [l0, l1, l2, l3, l4, l5] h = some y → zM l yX12_waysFirst cX12_waysFirst 7 (some .long) d 0 0 g 157 h [(2, l0), (0, l1), (0, l2), (0, l3), (0, l4), (0, l5)] 157 y.2 (some (1, y.1))) ∧ (∀ (l0 l1 l2 l3 l4 l5 : Int) (h : Hp) (y : Int × Hp), M_waysOf_G d 6 [l0, l1, l2, l3, l4, l5] h = some y → zM l yX12_waysSecond cX12_waysSecond 7 (some .long) d 0 0 g 157 h [(2, l0), (0, l1), (0, l2), (0, l3), (0, l4), (0, l5)] 157 y.2 (some (1, y.1))) ∧ (∀ (l0 l1 l2 l3 l4 l5 l6 : Int) (h : Hp) (y : Int × Hp), M_waysOf_G d 7 [l0, l1, l2, l3, l4, l5, l6] h = some y → zM l yX12_waysSplit cX12_waysSplit 7 (some .long) d 0 0 g 157 h [(2, l0), (0, l1), (0, l2), (0, l3), (0, l4), (0, l5), (0, l6)] 157 y.2 (some (1, y.1)))
set_option maxHeartbeats 4000000 in
set_option maxRecDepth 100000 in
theorem z_M_waysOf_j97 {g : GP} {x : CX} {d : Nat} (X : zX g x RX12 cX12_waysOf 8 (d + 1)) (hd : 2 ≤ d) (IH : M_waysOf_G_IH (xl x) g d) (l0 l7 : Int) (h : Hp) (y : Int × Hp) (hf : M_waysOf_j97 (M_waysOf_G d) d l0 l7 h = some y) (hK : zE g x (some .long) 0 0 157 y.2 (some (1, y.1))) : ZV g x 8 h 97 [(0, (2, l0)), (7, (0, l7))] [] := by
  unfold M_waysOf_j97 at hf
  refine z_aload_n X dX12_waysOf_97 0 rfl ?_
  obtain ⟨g3, hf⟩ := gif hf
  refine y_get X fl_RX12_201 dX12_waysOf_98 g3 ?_
  refine z_iload X dX12_waysOf_101 1 rfl ?_
  obtain ⟨g4, hf⟩ := gif hf
  refine y_lald X dX12_waysOf_103 g4 ?_
  cases hf
  exact z_lret X hK dX12_waysOf_104
set_option maxHeartbeats 4000000 in
set_option maxRecDepth 100000 in
theorem z_M_waysOf_j96 {g : GP} {x : CX} {d : Nat} (X : zX g x RX12 cX12_waysOf 8 (d + 1)) (hd : 2 ≤ d) (IH : M_waysOf_G_IH (xl x) g d) (l0 l7 s0 s1 s2 : Int) (h : Hp) (y : Int × Hp) (hf : M_waysOf_j96 (M_waysOf_G d) d l0 l7 s0 s1 s2 h = some y) (hK : zE g x (some .long) 0 0 157 y.2 (some (1, y.1))) : ZV g x 8 h 96 [(0, (2, l0)), (7, (0, l7))] [(1, s0), (0, s1), (2, s2)] := by
  unfold M_waysOf_j96 at hf
  obtain ⟨g6, hf⟩ := gif hf
  refine y_last X dX12_waysOf_96 g6 ?_
  let h_1 : Hp := hput h s2 s1 s0
  exact (z_M_waysOf_j97 X hd IH l0 l7 h_1 _ hf hK)
set_option maxHeartbeats 4000000 in
set_option maxRecDepth 100000 in
theorem z_M_waysOf_j84 {g : GP} {x : CX} {d : Nat} (X : zX g x RX12 cX12_waysOf 8 (d + 1)) (hd : 2 ≤ d) (IH : M_waysOf_G_IH (xl x) g d) (l0 l2 l3 l4 l5 l6 l7 s0 s1 : Int) (h : Hp) (y : Int × Hp) (hf : M_waysOf_j84 (M_waysOf_G d) d l0 l2 l3 l4 l5 l6 l7 s0 s1 h = some y) (hK : zE g x (some .long) 0 0 157 y.2 (some (1, y.1))) : ZV g x 8 h 84 [(0, (2, l0)), (2, (0, l2)), (3, (0, l3)), (4, (0, l4)), (5, (0, l5)), (6, (0, l6)), (7, (0, l7))] [(0, s0), (2, s1)] := by
  unfold M_waysOf_j84 at hf
  refine z_aload_n X dX12_waysOf_84 0 rfl ?_
  refine z_iload_n X dX12_waysOf_85 1 rfl ?_
  refine z_iload_n X dX12_waysOf_86 2 rfl ?_
  refine z_iload X dX12_waysOf_87 3 rfl ?_
  refine z_iload X dX12_waysOf_89 4 rfl ?_
  refine z_iload X dX12_waysOf_91 5 rfl ?_
  obtain ⟨g5, hf⟩ := gif hf
  obtain ⟨r93, hr93, hf⟩ := obE hf
  refine y_V1 X cv_RX12_289 dX12_waysOf_93 g5 (IH.2.2.2.1 l0 l2 l3 l4 l5 l6 h r93 hr93) (as := [(0, l2), (0, l3), (0, l4), (0, l5), (0, l6)]) rfl rfl (Nat.le_of_ble_eq_true rfl) z00 ?_
  exact z_weak [0, 6] rfl (z_M_waysOf_j96 X hd IH l0 l7 r93.1 s0 s1 r93.2 _ hf hK)
set_option maxHeartbeats 4000000 in
set_option maxRecDepth 100000 in
theorem cb_M_waysOf {l : Launch} {g : GP} {d : Nat} (IH : M_waysOf_G_IH l g d) (hd : 2 ≤ d) (l0 l1 l2 l3 l4 l5 l6 : Int) (h : Hp) (y : Int × Hp) (hf : M_waysOf_b (M_waysOf_G d) d l0 l1 l2 l3 l4 l5 l6 h = some y) : zM l yX12_waysOf cX12_waysOf 8 (some .long) (d + 1) 0 0 g 157 h [(2, l0), (0, l1), (0, l2), (0, l3), (0, l4), (0, l5), (0, l6)] 157 y.2 (some (1, y.1)) := by
  refine z_start (by decide) (Nat.le_of_ble_eq_true rfl) (fun x X hK _ _ _ hl => ?_)
  have IH : M_waysOf_G_IH (xl x) g d := hl ▸ IH
  show ZV g x 8 h 0 [(0, (2, l0)), (1, (0, l1)), (2, (0, l2)), (3, (0, l3)), (4, (0, l4)), (5, (0, l5)), (6, (0, l6))] []
  unfold M_waysOf_b at hf
  refine z_aload_n X dX12_waysOf_0 0 rfl ?_
  refine z_iload_n X dX12_waysOf_1 2 rfl ?_
  refine z_iload_n X dX12_waysOf_2 3 rfl ?_
  refine z_iload X dX12_waysOf_3 4 rfl ?_
  refine z_iload X dX12_waysOf_5 5 rfl ?_
  refine z_iload X dX12_waysOf_7 6 rfl ?_
  obtain ⟨g1, hf⟩ := gif hf
  obtain ⟨r9, hr9, hf⟩ := obE hf
  refine y_V1 X cv_RX12_274 dX12_waysOf_9 g1 (c_M_hasRoom d (Nat.le_trans (by decide) hd) l0 l2 l3 l4 l5 l6 h r9 hr9) (as := [(0, l2), (0, l3), (0, l4), (0, l5), (0, l6)]) rfl rfl (Nat.le_of_ble_eq_true rfl) z00 ?_
  refine z_if_ne X dX12_waysOf_12 rfl (fun hc12 => ?_) (fun hc12 => ?_)
  · have hf := iff' hc12 hf
    refine z_iload_n X dX12_waysOf_17 1 rfl ?_
    refine z_iload_n X dX12_waysOf_18 2 rfl ?_
    refine z_aload_n X dX12_waysOf_19 0 rfl ?_
    refine z_iload_n X dX12_waysOf_20 3 rfl ?_
    refine z_iload X dX12_waysOf_21 4 rfl ?_
    refine z_iload X dX12_waysOf_23 5 rfl ?_
    refine z_iload X dX12_waysOf_25 6 rfl ?_
    obtain ⟨r27, hr27, hf⟩ := obE hf
    refine y_V1 X cv_RX12_278 dX12_waysOf_27 g1 (c_M_spanOf d (Nat.le_trans (by decide) hd) l0 l3 l4 l5 l6 h r27 hr27) (as := [(0, l3), (0, l4), (0, l5), (0, l6)]) rfl rfl (Nat.le_of_ble_eq_true rfl) z00 ?_
    obtain ⟨r30, hr30, hf⟩ := obE hf
    refine y_S1 X cs_RX12_281 dX12_waysOf_30 (c_M_keyOf d (Nat.zero_le _) l1 l2 r27 h r30 hr30) (as := [(0, l1), (0, l2), (0, r27)]) rfl rfl (Nat.le_of_ble_eq_true rfl) z00 ?_
    refine z_istore X dX12_waysOf_33 (by decide) (ls' := [(7, (0, r30)), (0, (2, l0)), (1, (0, l1)), (2, (0, l2)), (3, (0, l3)), (4, (0, l4)), (5, (0, l5)), (6, (0, l6))]) rfl ?_
    refine z_aload_n X dX12_waysOf_35 1 rfl ?_
    refine y_get X fl_RX12_201 dX12_waysOf_36 g1 ?_
    refine z_iload X dX12_waysOf_39 0 rfl ?_
    obtain ⟨g2, hf⟩ := gif hf
    refine y_lald X dX12_waysOf_41 g2 ?_
    refine z_ldc2 X kj_RX12_247 kl_m9 dX12_waysOf_42 ?_
    refine z_l_ne X dX12_waysOf_45 dX12_waysOf_46 rfl (fun hc45 => ?_) (fun hc45 => ?_)
    · have hf := iff' hc45 hf
      exact z_weak [1, 0] rfl (z_M_waysOf_j97 X hd IH l0 r30 h _ hf hK)
    · have hf := ift hc45 hf
      refine z_aload_n X dX12_waysOf_49 1 rfl ?_
      refine y_get X fl_RX12_201 dX12_waysOf_50 g1 ?_
      refine z_iload X dX12_waysOf_53 0 rfl ?_
      refine z_iload_n X dX12_waysOf_55 2 rfl ?_
      refine z_iconst X dX12_waysOf_56 kc_1 ?_
      refine z_icmp_ne X dX12_waysOf_57 rfl (fun hc57 => ?_) (fun hc57 => ?_)
      · have hf := iff' hc57 hf
        exact z_weak [1, 3, 4, 5, 6, 7, 0] rfl (z_M_waysOf_j84 X hd IH l0 l2 l3 l4 l5 l6 r30 r30 (h l0 41) h _ hf hK)
      · have hf := ift hc57 hf
        refine z_aload_n X dX12_waysOf_60 1 rfl ?_
        refine y_get X fl_RX12_98 dX12_waysOf_61 g1 ?_
        refine z_iload_n X dX12_waysOf_64 3 rfl ?_
        obtain ⟨g7, hf⟩ := gif hf
        refine y_iald X dX12_waysOf_65 g7 ?_
        refine z_if_ne X dX12_waysOf_66 rfl (fun hc66 => ?_) (fun hc66 => ?_)
        · have hf := iff' hc66 hf
          exact z_weak [1, 3, 4, 5, 6, 7, 0] rfl (z_M_waysOf_j84 X hd IH l0 l2 l3 l4 l5 l6 r30 r30 (h l0 41) h _ hf hK)
        · have hf := ift hc66 hf
          refine z_aload_n X dX12_waysOf_69 1 rfl ?_
          refine z_iload_n X dX12_waysOf_70 3 rfl ?_
          refine z_iload_n X dX12_waysOf_71 4 rfl ?_
          refine z_iload X dX12_waysOf_72 5 rfl ?_
          refine z_iload X dX12_waysOf_74 6 rfl ?_
          refine z_iload X dX12_waysOf_76 7 rfl ?_
          obtain ⟨r78, hr78, hf⟩ := obE hf
          refine y_V1 X cv_RX12_285 dX12_waysOf_78 g1 (IH.2.1 l0 l2 l3 l4 l5 l6 h r78 hr78) (as := [(0, l2), (0, l3), (0, l4), (0, l5), (0, l6)]) rfl rfl (Nat.le_of_ble_eq_true rfl) z00 ?_
          refine z_goto X dX12_waysOf_81 rfl ?_
          exact z_weak [1, 0] rfl (z_M_waysOf_j96 X hd IH l0 r30 r78.1 r30 (h l0 41) r78.2 _ hf hK)
  · have hf := ift hc12 hf
    refine z_lconst0 X dX12_waysOf_15 ?_
    cases hf
    exact z_lret X hK dX12_waysOf_16
set_option maxHeartbeats 4000000 in
set_option maxRecDepth 100000 in
theorem z_M_waysAbove_L104 {g : GP} {x : CX} {d : Nat} (X : zX g x RX12 cX12_waysAbove 11 (d + 1)) (hd : 2 ≤ d) (IH : M_waysOf_G_IH (xl x) g d) (l0 l1 l2 l3 l4 l5 l8 l9 : Int)  (E : Int × Hp → Prop) (hx0 : ∀ e : Int × Hp, E (e) → ZV g x 11 e.2 140 [(0, (2, l0)), (1, (0, l1)), (2, (0, l2)), (3, (0, l3)), (4, (0, l4)), (5, (0, l5)), (6, (1, e.1)), (8, (0, l8)), (9, (0, l9))] []) (l6 l10 : Int) (h : Hp) (y : (Int × Int × Hp) ⊕ (Int × Hp)) (hf : M_waysAbove_L104 (M_waysOf_G d) d l0 l1 l2 l3 l4 l5 l8 l9 l6 l10 h = some y) (hk : z_sum (fun q : Int × Int × Hp => ZV g x 11 q.2.2 104 [(0, (2, l0)), (1, (0, l1)), (2, (0, l2)), (3, (0, l3)), (4, (0, l4)), (5, (0, l5)), (6, (1, q.1)), (8, (0, l8)), (9, (0, l9)), (10, (0, q.2.1))] []) E y) : ZV g x 11 h 104 [(0, (2, l0)), (1, (0, l1)), (2, (0, l2)), (3, (0, l3)), (4, (0, l4)), (5, (0, l5)), (6, (1, l6)), (8, (0, l8)), (9, (0, l9)), (10, (0, l10))] [] := by
  unfold M_waysAbove_L104 at hf
  refine z_iload X dX12_waysAbove_104 9 rfl ?_
  refine z_iload_n X dX12_waysAbove_106 3 rfl ?_
  refine z_icmp_gt X dX12_waysAbove_107 rfl (fun hc107 => ?_) (fun hc107 => ?_)
  · have hf := ift hc107 hf
    cases hf
    exact z_weak [0, 1, 2, 3, 4, 5, 6, 7, 8] rfl (hx0 _ hk)
  · have hf := iff' hc107 hf
    refine z_lload X dX12_waysAbove_110 6 rfl ?_
    refine z_aload_n X dX12_waysAbove_112 0 rfl ?_
    refine z_iload_n X dX12_waysAbove_113 1 rfl ?_
    refine z_iload X dX12_waysAbove_114 7 rfl ?_
    refine z_iload X dX12_waysAbove_116 8 rfl ?_
    refine z_iload X dX12_waysAbove_118 9 rfl ?_
    refine z_iload_n X dX12_waysAbove_120 2 rfl ?_
    refine z_iload_n X dX12_waysAbove_121 3 rfl ?_
    refine z_iload X dX12_waysAbove_122 4 rfl ?_
    refine z_iload X dX12_waysAbove_124 5 rfl ?_
    obtain ⟨g6, hf⟩ := gif hf
    obtain ⟨r126, hr126, hf⟩ := obE hf
    refine y_V1 X cv_RX12_300 dX12_waysAbove_126 g6 (IH.2.2.1 l0 l1 l8 l9 l10 l2 l3 l4 l5 h r126 hr126) (as := [(0, l1), (0, l8), (0, l9), (0, l10), (0, l2), (0, l3), (0, l4), (0, l5)]) rfl rfl (Nat.le_of_ble_eq_true rfl) z00 ?_
    obtain ⟨r129, hr129, hf⟩ := obE hf
    refine y_S1 X cs_RX12_304 dX12_waysAbove_129 (c_M_sum d (Nat.le_trans (by decide) hd) l6 r126.1 r126.2 r129 hr129) (as := [(1, l6), (1, r126.1)]) rfl rfl (Nat.le_of_ble_eq_true rfl) z00 ?_
    refine z_lstore X dX12_waysAbove_132 (by decide) (ls' := [(6, (1, r129)), (0, (2, l0)), (1, (0, l1)), (2, (0, l2)), (3, (0, l3)), (4, (0, l4)), (5, (0, l5)), (8, (0, l8)), (9, (0, l9)), (10, (0, l10))]) rfl ?_
    refine z_iinc X dX12_waysAbove_134 9 rfl (by decide) (ls' := [(10, (0, w32 (l10 + 1))), (6, (1, r129)), (0, (2, l0)), (1, (0, l1)), (2, (0, l2)), (3, (0, l3)), (4, (0, l4)), (5, (0, l5)), (8, (0, l8)), (9, (0, l9))]) rfl ?_
    refine z_goto X dX12_waysAbove_137 rfl ?_
    cases hf
    exact z_weak [2, 3, 4, 5, 6, 7, 1, 8, 9, 0] rfl hk
set_option maxHeartbeats 4000000 in
set_option maxRecDepth 100000 in
theorem z_M_waysAbove_j102 {g : GP} {x : CX} {d : Nat} (X : zX g x RX12 cX12_waysAbove 11 (d + 1)) (hd : 2 ≤ d) (IH : M_waysOf_G_IH (xl x) g d) (l0 l1 l2 l3 l4 l5 l6 l8 l9 s0 : Int) (h : Hp) (y : (Int × Int × Hp) ⊕ (Int × Hp)) (hf : M_waysAbove_j102 (M_waysOf_G d) d l0 l1 l2 l3 l4 l5 l6 l8 l9 s0 h = some y) (E : Int × Hp → Prop) (hx0 : ∀ e : Int × Hp, E (e) → ZV g x 11 e.2 146 [(0, (2, l0)), (1, (0, l1)), (2, (0, l2)), (3, (0, l3)), (4, (0, l4)), (5, (0, l5)), (6, (1, e.1)), (8, (0, l8))] []) (hk : z_sum (fun q : Int × Int × Hp => ZV g x 11 q.2.2 72 [(0, (2, l0)), (1, (0, l1)), (2, (0, l2)), (3, (0, l3)), (4, (0, l4)), (5, (0, l5)), (6, (1, q.1)), (8, (0, l8)), (9, (0, q.2.1))] []) E y) : ZV g x 11 h 102 [(0, (2, l0)), (1, (0, l1)), (2, (0, l2)), (3, (0, l3)), (4, (0, l4)), (5, (0, l5)), (6, (1, l6)), (8, (0, l8)), (9, (0, l9))] [(0, s0)] := by
  unfold M_waysAbove_j102 at hf
  refine z_istore X dX12_waysAbove_102 (by decide) (ls' := [(10, (0, s0)), (0, (2, l0)), (1, (0, l1)), (2, (0, l2)), (3, (0, l3)), (4, (0, l4)), (5, (0, l5)), (6, (1, l6)), (8, (0, l8)), (9, (0, l9))]) rfl ?_
  obtain ⟨q104, hq104, hf⟩ := obE hf
  have hx104_0 : ∀ e140 : Int × Hp, (e140 : Int × Hp) = q104 → ZV g x 11 e140.2 140 [(0, (2, l0)), (1, (0, l1)), (2, (0, l2)), (3, (0, l3)), (4, (0, l4)), (5, (0, l5)), (6, (1, e140.1)), (8, (0, l8)), (9, (0, l9))] [] := by
    intro e140 hq
    subst hq
    refine z_iinc X dX12_waysAbove_140 8 rfl (by decide) (ls' := [(9, (0, w32 (l9 + 1))), (0, (2, l0)), (1, (0, l1)), (2, (0, l2)), (3, (0, l3)), (4, (0, l4)), (5, (0, l5)), (6, (1, e140.1)), (8, (0, l8))]) rfl ?_
    refine z_goto X dX12_waysAbove_143 rfl ?_
    cases hf
    exact z_weak [1, 2, 3, 4, 5, 6, 7, 8, 0] rfl hk
  exact z_weak [1, 2, 3, 4, 5, 6, 7, 8, 9, 0] rfl (z_loop (Z := (fun q : Int × Int × Hp => ZV g x 11 q.2.2 104 [(0, (2, l0)), (1, (0, l1)), (2, (0, l2)), (3, (0, l3)), (4, (0, l4)), (5, (0, l5)), (6, (1, q.1)), (8, (0, l8)), (9, (0, l9)), (10, (0, q.2.1))] [])) (E := fun q => q = q104) (fun q y hb hk => z_M_waysAbove_L104 X hd IH l0 l1 l2 l3 l4 l5 l8 l9 (fun q => q = q104) hx104_0 q.1 q.2.1 q.2.2 y hb hk) LN (l6, s0, h) q104 hq104 rfl)
set_option maxHeartbeats 4000000 in
set_option maxRecDepth 100000 in
theorem z_M_waysAbove_j86 {g : GP} {x : CX} {d : Nat} (X : zX g x RX12 cX12_waysAbove 11 (d + 1)) (hd : 2 ≤ d) (IH : M_waysOf_G_IH (xl x) g d) (l0 l1 l2 l3 l4 l5 l6 l8 l9 s0 s1 : Int) (h : Hp) (y : (Int × Int × Hp) ⊕ (Int × Hp)) (hf : M_waysAbove_j86 (M_waysOf_G d) d l0 l1 l2 l3 l4 l5 l6 l8 l9 s0 s1 h = some y) (E : Int × Hp → Prop) (hx0 : ∀ e : Int × Hp, E (e) → ZV g x 11 e.2 146 [(0, (2, l0)), (1, (0, l1)), (2, (0, l2)), (3, (0, l3)), (4, (0, l4)), (5, (0, l5)), (6, (1, e.1)), (8, (0, l8))] []) (hk : z_sum (fun q : Int × Int × Hp => ZV g x 11 q.2.2 72 [(0, (2, l0)), (1, (0, l1)), (2, (0, l2)), (3, (0, l3)), (4, (0, l4)), (5, (0, l5)), (6, (1, q.1)), (8, (0, l8)), (9, (0, q.2.1))] []) E y) : ZV g x 11 h 86 [(0, (2, l0)), (1, (0, l1)), (2, (0, l2)), (3, (0, l3)), (4, (0, l4)), (5, (0, l5)), (6, (1, l6)), (8, (0, l8)), (9, (0, l9))] [(0, s0), (0, s1)] := by
  unfold M_waysAbove_j86 at hf
  refine z_icmp_gt X dX12_waysAbove_86 rfl (fun hc86 => ?_) (fun hc86 => ?_)
  · have hf := ift hc86 hf
    cases hf
    exact z_weak [0, 1, 2, 3, 4, 5, 6, 7] rfl (hx0 _ hk)
  · have hf := iff' hc86 hf
    refine z_iload X dX12_waysAbove_89 4 rfl ?_
    refine z_iconst X dX12_waysAbove_91 kc_m1 ?_
    refine z_icmp_ne X dX12_waysAbove_92 rfl (fun hc92 => ?_) (fun hc92 => ?_)
    · rw [if_neg hc92] at hf
      refine z_iload X dX12_waysAbove_100 5 rfl ?_
      exact (z_M_waysAbove_j102 X hd IH l0 l1 l2 l3 l4 l5 l6 l8 l9 l5 h _ hf E hx0 hk)
    · rw [if_pos hc92] at hf
      refine z_iload X dX12_waysAbove_95 8 rfl ?_
      refine z_goto X dX12_waysAbove_97 rfl ?_
      exact (z_M_waysAbove_j102 X hd IH l0 l1 l2 l3 l4 l5 l6 l8 l9 l9 h _ hf E hx0 hk)
set_option maxHeartbeats 4000000 in
set_option maxRecDepth 100000 in
theorem z_M_waysAbove_L72 {g : GP} {x : CX} {d : Nat} (X : zX g x RX12 cX12_waysAbove 11 (d + 1)) (hd : 2 ≤ d) (IH : M_waysOf_G_IH (xl x) g d) (l0 l1 l2 l3 l4 l5 l8 : Int)  (E : Int × Hp → Prop) (hx0 : ∀ e : Int × Hp, E (e) → ZV g x 11 e.2 146 [(0, (2, l0)), (1, (0, l1)), (2, (0, l2)), (3, (0, l3)), (4, (0, l4)), (5, (0, l5)), (6, (1, e.1)), (8, (0, l8))] []) (l6 l9 : Int) (h : Hp) (y : (Int × Int × Hp) ⊕ (Int × Hp)) (hf : M_waysAbove_L72 (M_waysOf_G d) d l0 l1 l2 l3 l4 l5 l8 l6 l9 h = some y) (hk : z_sum (fun q : Int × Int × Hp => ZV g x 11 q.2.2 72 [(0, (2, l0)), (1, (0, l1)), (2, (0, l2)), (3, (0, l3)), (4, (0, l4)), (5, (0, l5)), (6, (1, q.1)), (8, (0, l8)), (9, (0, q.2.1))] []) E y) : ZV g x 11 h 72 [(0, (2, l0)), (1, (0, l1)), (2, (0, l2)), (3, (0, l3)), (4, (0, l4)), (5, (0, l5)), (6, (1, l6)), (8, (0, l8)), (9, (0, l9))] [] := by
  unfold M_waysAbove_L72 at hf
  refine z_iload X dX12_waysAbove_72 8 rfl ?_
  refine z_iload X dX12_waysAbove_74 4 rfl ?_
  refine z_iconst X dX12_waysAbove_76 kc_m1 ?_
  refine z_icmp_ne X dX12_waysAbove_77 rfl (fun hc77 => ?_) (fun hc77 => ?_)
  · rw [if_neg hc77] at hf
    refine z_iload X dX12_waysAbove_84 4 rfl ?_
    exact (z_M_waysAbove_j86 X hd IH l0 l1 l2 l3 l4 l5 l6 l8 l9 l4 l9 h _ hf E hx0 hk)
  · rw [if_pos hc77] at hf
    refine z_iload_n X dX12_waysAbove_80 3 rfl ?_
    refine z_goto X dX12_waysAbove_81 rfl ?_
    exact (z_M_waysAbove_j86 X hd IH l0 l1 l2 l3 l4 l5 l6 l8 l9 l3 l9 h _ hf E hx0 hk)
set_option maxHeartbeats 4000000 in
set_option maxRecDepth 100000 in
theorem z_M_waysAbove_j146 {g : GP} {x : CX} {d : Nat} (X : zX g x RX12 cX12_waysAbove 11 (d + 1)) (hd : 2 ≤ d) (IH : M_waysOf_G_IH (xl x) g d) (l0 l1 l2 l3 l4 l5 l6 l8 : Int) (h : Hp) (y : (Int × Int × Hp) ⊕ (Int × Hp)) (hf : M_waysAbove_j146 (M_waysOf_G d) d l0 l1 l2 l3 l4 l5 l6 l8 h = some y) (E : Int × Hp → Prop) (hx0 : ∀ e : Int × Hp, E (e) → ZV g x 11 e.2 152 [(6, (1, e.1))] []) (hk : z_sum (fun q : Int × Int × Hp => ZV g x 11 q.2.2 31 [(0, (2, l0)), (1, (0, l1)), (2, (0, l2)), (3, (0, l3)), (4, (0, l4)), (5, (0, l5)), (6, (1, q.1)), (8, (0, q.2.1))] []) E y) : ZV g x 11 h 146 [(0, (2, l0)), (1, (0, l1)), (2, (0, l2)), (3, (0, l3)), (4, (0, l4)), (5, (0, l5)), (6, (1, l6)), (8, (0, l8))] [] := by
  unfold M_waysAbove_j146 at hf
  refine z_iinc X dX12_waysAbove_146 7 rfl (by decide) (ls' := [(8, (0, w32 (l8 + 1))), (0, (2, l0)), (1, (0, l1)), (2, (0, l2)), (3, (0, l3)), (4, (0, l4)), (5, (0, l5)), (6, (1, l6))]) rfl ?_
  refine z_goto X dX12_waysAbove_149 rfl ?_
  cases hf
  exact z_weak [1, 2, 3, 4, 5, 6, 7, 0] rfl hk
set_option maxHeartbeats 4000000 in
set_option maxRecDepth 100000 in
theorem z_M_waysAbove_L31 {g : GP} {x : CX} {d : Nat} (X : zX g x RX12 cX12_waysAbove 11 (d + 1)) (hd : 2 ≤ d) (IH : M_waysOf_G_IH (xl x) g d) (l0 l1 l2 l3 l4 l5 : Int)  (E : Int × Hp → Prop) (hx0 : ∀ e : Int × Hp, E (e) → ZV g x 11 e.2 152 [(6, (1, e.1))] []) (l6 l8 : Int) (h : Hp) (y : (Int × Int × Hp) ⊕ (Int × Hp)) (hf : M_waysAbove_L31 (M_waysOf_G d) d l0 l1 l2 l3 l4 l5 l6 l8 h = some y) (hk : z_sum (fun q : Int × Int × Hp => ZV g x 11 q.2.2 31 [(0, (2, l0)), (1, (0, l1)), (2, (0, l2)), (3, (0, l3)), (4, (0, l4)), (5, (0, l5)), (6, (1, q.1)), (8, (0, q.2.1))] []) E y) : ZV g x 11 h 31 [(0, (2, l0)), (1, (0, l1)), (2, (0, l2)), (3, (0, l3)), (4, (0, l4)), (5, (0, l5)), (6, (1, l6)), (8, (0, l8))] [] := by
  unfold M_waysAbove_L31 at hf
  refine z_iload X dX12_waysAbove_31 7 rfl ?_
  refine z_aload_n X dX12_waysAbove_33 0 rfl ?_
  obtain ⟨g3, hf⟩ := gif hf
  refine y_get X fl_RX12_11 dX12_waysAbove_34 g3 ?_
  refine z_icmp_ge X dX12_waysAbove_37 rfl (fun hc37 => ?_) (fun hc37 => ?_)
  · have hf := ift hc37 hf
    cases hf
    exact z_weak [6] rfl (hx0 _ hk)
  · have hf := iff' hc37 hf
    refine z_aload_n X dX12_waysAbove_40 0 rfl ?_
    refine y_get X fl_RX12_104 dX12_waysAbove_41 g3 ?_
    refine z_iload_n X dX12_waysAbove_44 1 rfl ?_
    obtain ⟨g4, hf⟩ := gif hf
    refine y_iald X dX12_waysAbove_45 g4 ?_
    refine z_iconst X dX12_waysAbove_46 kc_1 ?_
    refine z_icmp_eq X dX12_waysAbove_47 rfl (fun hc47 => ?_) (fun hc47 => ?_)
    · have hf := ift hc47 hf
      cases hf
      exact z_weak [6] rfl (hx0 _ hk)
    · have hf := iff' hc47 hf
      refine z_aload_n X dX12_waysAbove_50 0 rfl ?_
      refine z_iload X dX12_waysAbove_51 7 rfl ?_
      refine z_aload_n X dX12_waysAbove_53 0 rfl ?_
      refine y_get X fl_RX12_101 dX12_waysAbove_54 g3 ?_
      refine z_iload_n X dX12_waysAbove_57 1 rfl ?_
      obtain ⟨g5, hf⟩ := gif hf
      refine y_iald X dX12_waysAbove_58 g5 ?_
      refine z_iconst X dX12_waysAbove_59 kc_1 ?_
      obtain ⟨r60, hr60, hf⟩ := obE hf
      refine y_V1 X cv_RX12_296 dX12_waysAbove_60 g3 (c_M_mayGo d (Nat.le_trans (by decide) hd) l0 l8 (h (h l0 6) l1) 1 h r60 hr60) (as := [(0, l8), (0, h (h l0 6) l1), (0, 1)]) rfl rfl (Nat.le_of_ble_eq_true rfl) z00 ?_
      refine z_if_ne X dX12_waysAbove_63 rfl (fun hc63 => ?_) (fun hc63 => ?_)
      · have hf := iff' hc63 hf
        refine z_iload_n X dX12_waysAbove_69 2 rfl ?_
        refine z_istore X dX12_waysAbove_70 (by decide) (ls' := [(9, (0, l2)), (0, (2, l0)), (1, (0, l1)), (2, (0, l2)), (3, (0, l3)), (4, (0, l4)), (5, (0, l5)), (6, (1, l6)), (8, (0, l8))]) rfl ?_
        obtain ⟨q72, hq72, hf⟩ := obE hf
        have hx72_0 : ∀ e146 : Int × Hp, (e146 : Int × Hp) = q72 → ZV g x 11 e146.2 146 [(0, (2, l0)), (1, (0, l1)), (2, (0, l2)), (3, (0, l3)), (4, (0, l4)), (5, (0, l5)), (6, (1, e146.1)), (8, (0, l8))] [] := by
          intro e146 hq
          subst hq
          exact (z_M_waysAbove_j146 X hd IH l0 l1 l2 l3 l4 l5 e146.1 l8 e146.2 _ hf E hx0 hk)
        exact z_weak [1, 2, 3, 4, 5, 6, 7, 8, 0] rfl (z_loop (Z := (fun q : Int × Int × Hp => ZV g x 11 q.2.2 72 [(0, (2, l0)), (1, (0, l1)), (2, (0, l2)), (3, (0, l3)), (4, (0, l4)), (5, (0, l5)), (6, (1, q.1)), (8, (0, l8)), (9, (0, q.2.1))] [])) (E := fun q => q = q72) (fun q y hb hk => z_M_waysAbove_L72 X hd IH l0 l1 l2 l3 l4 l5 l8 (fun q => q = q72) hx72_0 q.1 q.2.1 q.2.2 y hb hk) LN (l6, l2, h) q72 hq72 rfl)
      · have hf := ift hc63 hf
        refine z_goto X dX12_waysAbove_66 rfl ?_
        exact (z_M_waysAbove_j146 X hd IH l0 l1 l2 l3 l4 l5 l6 l8 h _ hf E hx0 hk)
set_option maxHeartbeats 4000000 in
set_option maxRecDepth 100000 in
theorem z_M_waysAbove_j26 {g : GP} {x : CX} {d : Nat} (X : zX g x RX12 cX12_waysAbove 11 (d + 1)) (hd : 2 ≤ d) (IH : M_waysOf_G_IH (xl x) g d) (l0 l1 l2 l3 l4 l5 s0 : Int) (h : Hp) (y : Int × Hp) (hf : M_waysAbove_j26 (M_waysOf_G d) d l0 l1 l2 l3 l4 l5 s0 h = some y) (hK : zE g x (some .long) 0 0 157 y.2 (some (1, y.1))) : ZV g x 11 h 26 [(0, (2, l0)), (1, (0, l1)), (2, (0, l2)), (3, (0, l3)), (4, (0, l4)), (5, (0, l5))] [(1, s0)] := by
  unfold M_waysAbove_j26 at hf
  refine z_lstore X dX12_waysAbove_26 (by decide) (ls' := [(6, (1, s0)), (0, (2, l0)), (1, (0, l1)), (2, (0, l2)), (3, (0, l3)), (4, (0, l4)), (5, (0, l5))]) rfl ?_
  refine z_iconst X dX12_waysAbove_28 kc_0 ?_
  refine z_istore X dX12_waysAbove_29 (by decide) (ls' := [(8, (0, 0)), (6, (1, s0)), (0, (2, l0)), (1, (0, l1)), (2, (0, l2)), (3, (0, l3)), (4, (0, l4)), (5, (0, l5))]) rfl ?_
  obtain ⟨q31, hq31, hf⟩ := obE hf
  have hx31_0 : ∀ e152 : Int × Hp, (e152 : Int × Hp) = q31 → ZV g x 11 e152.2 152 [(6, (1, e152.1))] [] := by
    intro e152 hq
    subst hq
    refine z_lload X dX12_waysAbove_152 0 rfl ?_
    cases hf
    exact z_lret X hK dX12_waysAbove_154
  exact z_weak [2, 3, 4, 5, 6, 7, 1, 0] rfl (z_loop (Z := (fun q : Int × Int × Hp => ZV g x 11 q.2.2 31 [(0, (2, l0)), (1, (0, l1)), (2, (0, l2)), (3, (0, l3)), (4, (0, l4)), (5, (0, l5)), (6, (1, q.1)), (8, (0, q.2.1))] [])) (E := fun q => q = q31) (fun q y hb hk => z_M_waysAbove_L31 X hd IH l0 l1 l2 l3 l4 l5 (fun q => q = q31) hx31_0 q.1 q.2.1 q.2.2 y hb hk) LN (s0, 0, h) q31 hq31 rfl)
set_option maxHeartbeats 4000000 in
set_option maxRecDepth 100000 in
theorem cb_M_waysAbove {l : Launch} {g : GP} {d : Nat} (IH : M_waysOf_G_IH l g d) (hd : 2 ≤ d) (l0 l1 l2 l3 l4 l5 : Int) (h : Hp) (y : Int × Hp) (hf : M_waysAbove_b (M_waysOf_G d) d l0 l1 l2 l3 l4 l5 h = some y) : zM l yX12_waysAbove cX12_waysAbove 11 (some .long) (d + 1) 0 0 g 157 h [(2, l0), (0, l1), (0, l2), (0, l3), (0, l4), (0, l5)] 157 y.2 (some (1, y.1)) := by
  refine z_start (by decide) (Nat.le_of_ble_eq_true rfl) (fun x X hK _ _ _ hl => ?_)
  have IH : M_waysOf_G_IH (xl x) g d := hl ▸ IH
  show ZV g x 11 h 0 [(0, (2, l0)), (1, (0, l1)), (2, (0, l2)), (3, (0, l3)), (4, (0, l4)), (5, (0, l5))] []
  unfold M_waysAbove_b at hf
  refine z_aload_n X dX12_waysAbove_0 0 rfl ?_
  obtain ⟨g1, hf⟩ := gif hf
  refine y_get X fl_RX12_104 dX12_waysAbove_1 g1 ?_
  refine z_iload_n X dX12_waysAbove_4 1 rfl ?_
  obtain ⟨g2, hf⟩ := gif hf
  refine y_iald X dX12_waysAbove_5 g2 ?_
  refine z_iconst X dX12_waysAbove_6 kc_2 ?_
  refine z_icmp_ne X dX12_waysAbove_7 rfl (fun hc7 => ?_) (fun hc7 => ?_)
  · have hf := iff' hc7 hf
    refine z_aload_n X dX12_waysAbove_14 0 rfl ?_
    refine z_iconst X dX12_waysAbove_15 kc_0 ?_
    refine z_iload_n X dX12_waysAbove_16 1 rfl ?_
    refine z_iload_n X dX12_waysAbove_17 2 rfl ?_
    refine z_iload_n X dX12_waysAbove_18 3 rfl ?_
    refine z_iload X dX12_waysAbove_19 4 rfl ?_
    refine z_iload X dX12_waysAbove_21 5 rfl ?_
    obtain ⟨r23, hr23, hf⟩ := obE hf
    refine y_V1 X cv_RX12_292 dX12_waysAbove_23 g1 (IH.1 l0 0 l1 l2 l3 l4 l5 h r23 hr23) (as := [(0, 0), (0, l1), (0, l2), (0, l3), (0, l4), (0, l5)]) rfl rfl (Nat.le_of_ble_eq_true rfl) z00 ?_
    exact (z_M_waysAbove_j26 X hd IH l0 l1 l2 l3 l4 l5 r23.1 r23.2 _ hf hK)
  · have hf := ift hc7 hf
    refine z_lconst0 X dX12_waysAbove_10 ?_
    refine z_goto X dX12_waysAbove_11 rfl ?_
    exact (z_M_waysAbove_j26 X hd IH l0 l1 l2 l3 l4 l5 0 h _ hf hK)
set_option maxHeartbeats 4000000 in
set_option maxRecDepth 100000 in
theorem cb_M_waysAround {l : Launch} {g : GP} {d : Nat} (IH : M_waysOf_G_IH l g d) (hd : 2 ≤ d) (l0 l1 l2 l3 l4 l5 l6 l7 l8 : Int) (h : Hp) (y : Int × Hp) (hf : M_waysAround_b (M_waysOf_G d) d l0 l1 l2 l3 l4 l5 l6 l7 l8 h = some y) : zM l yX12_waysAround cX12_waysAround 11 (some .long) (d + 1) 0 0 g 157 h [(2, l0), (0, l1), (0, l2), (0, l3), (0, l4), (0, l5), (0, l6), (0, l7), (0, l8)] 157 y.2 (some (1, y.1)) := by
  refine z_start (by decide) (Nat.le_of_ble_eq_true rfl) (fun x X hK _ _ _ hl => ?_)
  have IH : M_waysOf_G_IH (xl x) g d := hl ▸ IH
  show ZV g x 11 h 0 [(0, (2, l0)), (1, (0, l1)), (2, (0, l2)), (3, (0, l3)), (4, (0, l4)), (5, (0, l5)), (6, (0, l6)), (7, (0, l7)), (8, (0, l8))] []
  unfold M_waysAround_b at hf
  refine z_aload_n X dX12_waysAround_0 0 rfl ?_
  refine z_aload_n X dX12_waysAround_1 0 rfl ?_
  refine z_iload_n X dX12_waysAround_2 2 rfl ?_
  obtain ⟨g1, hf⟩ := gif hf
  obtain ⟨r3, hr3, hf⟩ := obE hf
  refine y_V1 X cv_RX12_268 dX12_waysAround_3 g1 (c_M_root d (Nat.zero_le _) l0 l2 h r3 hr3) (as := [(0, l2)]) rfl rfl (Nat.le_of_ble_eq_true rfl) z00 ?_
  refine z_iload X dX12_waysAround_6 5 rfl ?_
  refine z_iload X dX12_waysAround_8 6 rfl ?_
  refine z_iload_n X dX12_waysAround_10 3 rfl ?_
  refine z_iload X dX12_waysAround_11 4 rfl ?_
  obtain ⟨r13, hr13, hf⟩ := obE hf
  refine y_V1 X cv_RX12_274 dX12_waysAround_13 g1 (c_M_hasRoom d (Nat.le_trans (by decide) hd) l0 r3 l5 l6 l3 l4 h r13 hr13) (as := [(0, r3), (0, l5), (0, l6), (0, l3), (0, l4)]) rfl rfl (Nat.le_of_ble_eq_true rfl) z00 ?_
  refine z_if_eq X dX12_waysAround_16 rfl (fun hc16 => ?_) (fun hc16 => ?_)
  · have hf := ift hc16 hf
    refine z_lconst0 X dX12_waysAround_34 ?_
    cases hf
    exact z_lret X hK dX12_waysAround_35
  · have hf := iff' hc16 hf
    refine z_aload_n X dX12_waysAround_19 0 rfl ?_
    refine z_iload_n X dX12_waysAround_20 1 rfl ?_
    refine z_iload_n X dX12_waysAround_21 3 rfl ?_
    refine z_iload X dX12_waysAround_22 4 rfl ?_
    refine z_iload X dX12_waysAround_24 7 rfl ?_
    refine z_iload X dX12_waysAround_26 8 rfl ?_
    obtain ⟨r28, hr28, hf⟩ := obE hf
    refine y_V1 X cv_RX12_274 dX12_waysAround_28 g1 (c_M_hasRoom d (Nat.le_trans (by decide) hd) l0 l1 l3 l4 l7 l8 h r28 hr28) (as := [(0, l1), (0, l3), (0, l4), (0, l7), (0, l8)]) rfl rfl (Nat.le_of_ble_eq_true rfl) z00 ?_
    refine z_if_ne X dX12_waysAround_31 rfl (fun hc31 => ?_) (fun hc31 => ?_)
    · have hf := iff' hc31 hf
      refine z_aload_n X dX12_waysAround_36 0 rfl ?_
      refine z_iconst X dX12_waysAround_37 kc_0 ?_
      refine z_iload_n X dX12_waysAround_38 1 rfl ?_
      refine z_iload_n X dX12_waysAround_39 3 rfl ?_
      refine z_iload X dX12_waysAround_40 4 rfl ?_
      refine z_iload X dX12_waysAround_42 7 rfl ?_
      refine z_iload X dX12_waysAround_44 8 rfl ?_
      obtain ⟨r46, hr46, hf⟩ := obE hf
      refine y_V1 X cv_RX12_292 dX12_waysAround_46 g1 (IH.1 l0 0 l1 l3 l4 l7 l8 h r46 hr46) (as := [(0, 0), (0, l1), (0, l3), (0, l4), (0, l7), (0, l8)]) rfl rfl (Nat.le_of_ble_eq_true rfl) z00 ?_
      refine z_lstore X dX12_waysAround_49 (by decide) (ls' := [(9, (1, r46.1)), (0, (2, l0)), (1, (0, l1)), (2, (0, l2)), (3, (0, l3)), (4, (0, l4)), (5, (0, l5)), (6, (0, l6)), (7, (0, l7)), (8, (0, l8))]) rfl ?_
      refine z_lload X dX12_waysAround_51 0 rfl ?_
      refine z_lconst0 X dX12_waysAround_53 ?_
      refine z_l_ne X dX12_waysAround_54 dX12_waysAround_55 rfl (fun hc54 => ?_) (fun hc54 => ?_)
      · have hf := iff' hc54 hf
        refine z_lload X dX12_waysAround_62 0 rfl ?_
        refine z_aload_n X dX12_waysAround_64 1 rfl ?_
        refine z_iconst X dX12_waysAround_65 kc_1 ?_
        refine z_aload_n X dX12_waysAround_66 1 rfl ?_
        refine z_iload_n X dX12_waysAround_67 3 rfl ?_
        obtain ⟨r68, hr68, hf⟩ := obE hf
        refine y_V1 X cv_RX12_268 dX12_waysAround_68 g1 (c_M_root d (Nat.zero_le _) l0 l2 r46.2 r68 hr68) (as := [(0, l2)]) rfl rfl (Nat.le_of_ble_eq_true rfl) z00 ?_
        refine z_iload X dX12_waysAround_71 6 rfl ?_
        refine z_iload X dX12_waysAround_73 7 rfl ?_
        refine z_iload_n X dX12_waysAround_75 4 rfl ?_
        refine z_iload X dX12_waysAround_76 5 rfl ?_
        obtain ⟨r78, hr78, hf⟩ := obE hf
        refine y_V1 X cv_RX12_292 dX12_waysAround_78 g1 (IH.1 l0 1 r68 l5 l6 l3 l4 r46.2 r78 hr78) (as := [(0, 1), (0, r68), (0, l5), (0, l6), (0, l3), (0, l4)]) rfl rfl (Nat.le_of_ble_eq_true rfl) z00 ?_
        obtain ⟨r81, hr81, hf⟩ := obE hf
        refine y_S1 X cs_RX12_307 dX12_waysAround_81 (c_M_product d (Nat.zero_le _) r46.1 r78.1 r78.2 r81 hr81) (as := [(1, r46.1), (1, r78.1)]) rfl rfl (Nat.le_of_ble_eq_true rfl) z00 ?_
        cases hf
        exact z_lret X hK dX12_waysAround_84
      · have hf := ift hc54 hf
        refine z_lconst0 X dX12_waysAround_58 ?_
        refine z_goto X dX12_waysAround_59 rfl ?_
        cases hf
        exact z_lret X hK dX12_waysAround_84
    · have hf := ift hc31 hf
      refine z_lconst0 X dX12_waysAround_34 ?_
      cases hf
      exact z_lret X hK dX12_waysAround_35
set_option maxHeartbeats 4000000 in
set_option maxRecDepth 100000 in
theorem z_M_waysBelow_j62 {g : GP} {x : CX} {d : Nat} (X : zX g x RX12 cX12_waysBelow 9 (d + 1)) (hd : 2 ≤ d) (IH : M_waysOf_G_IH (xl x) g d) (h : Hp) (y : Int × Hp) (hf : M_waysBelow_j62 (M_waysOf_G d) d h = some y) (hK : zE g x (some .long) 0 0 157 y.2 (some (1, y.1))) : ZV g x 9 h 62 [] [] := by
  unfold M_waysBelow_j62 at hf
  refine z_lconst0 X dX12_waysBelow_62 ?_
  cases hf
  exact z_lret X hK dX12_waysBelow_63
