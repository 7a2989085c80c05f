set_option maxHeartbeats 4000000 in
set_option maxRecDepth 100000 in
theorem c_GR_readText {l : Launch} {g : GP} (d : Nat) (hd : 5 ≤ d) (l0 l1 l2 : Int) (h : Hp) (y : Int × Hp) (hf : GR_readText l0 l1 l2 h = some y) : zM l yX5_readText cX5_readText 4 (some .boolean) d 0 0 g 157 h [(2, l0), (2, l1), (2, l2)] 157 y.2 (some (0, y.1)) := by
  obtain ⟨d, rfl⟩ : ∃ k, d = k + 1 := ⟨d - 1, by omega⟩
  replace hd : 4 ≤ d := Nat.le_of_succ_le_succ hd
  refine z_start (by decide) (Nat.le_of_ble_eq_true rfl) (fun x X hK _ _ _ hl => ?_)
  show ZV g x 4 h 0 [(0, (2, l0)), (1, (2, l1)), (2, (2, l2))] []
  unfold GR_readText at hf
  refine z_aload_n X dX5_readText_0 0 rfl ?_
  refine z_aload_n X dX5_readText_1 1 rfl ?_
  obtain ⟨g1, hf⟩ := gif hf
  refine y_put X fl_RX5_23 dX5_readText_2 g1 rfl (by decide) ?_
  let h_1 : Hp := hput h l0 2 l1
  refine z_aload_n X dX5_readText_5 0 rfl ?_
  refine z_aload_n X dX5_readText_6 2 rfl ?_
  refine y_put X fl_RX5_27 dX5_readText_7 g1 rfl (by decide) ?_
  let h_2 : Hp := hput h_1 l0 3 l2
  refine z_aload_n X dX5_readText_10 0 rfl ?_
  refine y_get X fl_RX5_27 dX5_readText_11 g1 ?_
  obtain ⟨g2, hf⟩ := gif hf
  obtain ⟨r14, hr14, hf⟩ := obE hf
  refine y_V0 X cv_RX5_31 dX5_readText_14 g2 (c_Gr_clear d (Nat.le_trans (by decide) hd) (h_2 l0 3) h_2 r14 hr14) (as := []) rfl rfl (Nat.le_of_ble_eq_true rfl) z00 ?_
  refine z_aload_n X dX5_readText_17 0 rfl ?_
  refine z_iconst X dX5_readText_18 kc_0 ?_
  refine y_put X fl_RX5_9 dX5_readText_19 g1 rfl (by decide) ?_
  let h_3 : Hp := hput r14 l0 0 0
  refine z_aload_n X dX5_readText_22 0 rfl ?_
  refine z_iconst X dX5_readText_23 kc_m1 ?_
  refine y_put X fl_RX5_15 dX5_readText_24 g1 rfl (by decide) ?_
  let h_4 : Hp := hput h_3 l0 1 ((-1))
  refine z_aload_n X dX5_readText_27 0 rfl ?_
  refine z_aload_n X dX5_readText_28 0 rfl ?_
  refine y_get X fl_RX5_23 dX5_readText_29 g1 ?_
  refine z_iconst X dX5_readText_32 kc_0 ?_
  obtain ⟨g3, hf⟩ := gif hf
  obtain ⟨r33, hr33, hf⟩ := obE hf
  refine y_V1 X cv_RX5_36 dX5_readText_33 g3 (c_By_afterBlanks d (Nat.zero_le _) (h_4 l0 2) 0 h_4 r33 hr33) (as := [(0, 0)]) rfl rfl (Nat.le_of_ble_eq_true rfl) z00 ?_
  refine y_put X fl_RX5_40 dX5_readText_36 g1 rfl (by decide) ?_
  let h_5 : Hp := hput h_4 l0 4 r33
  refine z_iconst X dX5_readText_39 kc_0 ?_
  refine z_istore_n X dX5_readText_40 (by decide) (ls' := [(3, (0, 0)), (0, (2, l0)), (1, (2, l1)), (2, (2, l2))]) rfl ?_
  obtain ⟨q41, hq41, hf⟩ := obE hf
  have hx41_0 : ∀ e78 : Hp, (e78 : Hp) = q41 → ZV g x 4 e78 78 [(0, (2, l0))] [] := by
    intro e78 hq
    subst hq
    refine z_aload_n X dX5_readText_78 0 rfl ?_
    refine y_get X fl_RX5_27 dX5_readText_79 g1 ?_
    obtain ⟨g6, hf⟩ := gif hf
    obtain ⟨r82, hr82, hf⟩ := obE hf
    refine y_V0 X cv_RX5_49 dX5_readText_82 g6 (c_Gr_putInOrder d (Nat.le_trans (by decide) hd) (e78 l0 3) e78 r82 hr82) (as := []) rfl rfl (Nat.le_of_ble_eq_true rfl) z00 ?_
    refine z_aload_n X dX5_readText_85 0 rfl ?_
    refine y_get X fl_RX5_9 dX5_readText_86 g1 ?_
    refine z_if_ne X dX5_readText_89 rfl (fun hc89 => ?_) (fun hc89 => ?_)
    · rw [if_neg hc89] at hf
      refine z_iconst X dX5_readText_96 kc_0 ?_
      cases hf
      exact z_zret X hK (Or.inl rfl) dX5_readText_97
    · rw [if_pos hc89] at hf
      refine z_iconst X dX5_readText_92 kc_1 ?_
      refine z_goto X dX5_readText_93 rfl ?_
      cases hf
      exact z_zret X hK (Or.inr rfl) dX5_readText_97
  exact z_weak [1, 0] rfl (z_loop (Z := (fun q : Int × Hp => ZV g x 4 q.2 41 [(0, (2, l0)), (3, (0, q.1))] [])) (E := fun q => q = q41) (fun q y hb hk => z_GR_readText_L41 X hd l0 (fun q => q = q41) hx41_0 q.1 q.2 y hb hk) LN (0, h_5) q41 hq41 rfl)
set_option maxHeartbeats 4000000 in
set_option maxRecDepth 100000 in
theorem z_JA_fillJ_L6 {g : GP} {x : CX} {d : Nat} (X : zX g x RJ7 cJ7_fill_d0a16 5 d) (l0 l1 l4 : Int)  (E : Hp → Prop) (hx0 : ∀ e : Hp, E (e) → ZV g x 5 e 22 [] []) (l3 : Int) (h : Hp) (y : (Int × Hp) ⊕ (Hp)) (hf : JA_fillJ_L6 l0 l1 l4 l3 h = some y) (hk : z_sum (fun q : Int × Hp => ZV g x 5 q.2 6 [(0, (2, l0)), (1, (1, l1)), (3, (0, q.1)), (4, (0, l4))] []) E y) : ZV g x 5 h 6 [(0, (2, l0)), (1, (1, l1)), (3, (0, l3)), (4, (0, l4))] [] := by
  unfold JA_fillJ_L6 at hf
  refine z_iload_n X dJ7_fill_d0a16_6 2 rfl ?_
  refine z_iload X dJ7_fill_d0a16_7 3 rfl ?_
  refine z_icmp_ge X dJ7_fill_d0a16_9 rfl (fun hc9 => ?_) (fun hc9 => ?_)
  · have hf := ift hc9 hf
    cases hf
    exact z_weak [] rfl (hx0 _ hk)
  · have hf := iff' hc9 hf
    refine z_aload_n X dJ7_fill_d0a16_12 0 rfl ?_
    refine z_iload_n X dJ7_fill_d0a16_13 2 rfl ?_
    refine z_lload_n X dJ7_fill_d0a16_14 1 rfl ?_
    obtain ⟨g2, hf⟩ := gif hf
    refine y_last X dJ7_fill_d0a16_15 g2 ?_
    let h_1 : Hp := hput h l0 l3 l1
    refine z_iinc X dJ7_fill_d0a16_16 2 rfl (by decide) (ls' := [(3, (0, w32 (l3 + 1))), (0, (2, l0)), (1, (1, l1)), (4, (0, l4))]) rfl ?_
    refine z_goto X dJ7_fill_d0a16_19 rfl ?_
    cases hf
    exact z_weak [1, 2, 0, 3] rfl hk
set_option maxHeartbeats 4000000 in
set_option maxRecDepth 100000 in
theorem c_JA_fillJ {l : Launch} {g : GP} (d : Nat) (hd : 0 ≤ d) (l0 l1 : Int) (h : Hp) (y : Hp) (hf : JA_fillJ l0 l1 h = some y) : zM l yJ7_fill_d0a16 cJ7_fill_d0a16 5 none d 0 0 g 157 h [(2, l0), (1, l1)] 157 y none := by
  refine z_start (by decide) (Nat.le_of_ble_eq_true rfl) (fun x X hK _ _ _ hl => ?_)
  show ZV g x 5 h 0 [(0, (2, l0)), (1, (1, l1))] []
  unfold JA_fillJ at hf
  refine z_iconst X dJ7_fill_d0a16_0 kc_0 ?_
  refine z_istore_n X dJ7_fill_d0a16_1 (by decide) (ls' := [(3, (0, 0)), (0, (2, l0)), (1, (1, l1))]) rfl ?_
  refine z_aload_n X dJ7_fill_d0a16_2 1 rfl ?_
  obtain ⟨g1, hf⟩ := gif hf
  refine y_alen X dJ7_fill_d0a16_3 (by omega) ?_
  refine z_istore X dJ7_fill_d0a16_4 (by decide) (ls' := [(4, (0, kL l0)), (3, (0, 0)), (0, (2, l0)), (1, (1, l1))]) rfl ?_
  obtain ⟨q6, hq6, hf⟩ := obE hf
  have hx6_0 : ∀ e22 : Hp, (e22 : Hp) = q6 → ZV g x 5 e22 22 [] [] := by
    intro e22 hq
    subst hq
    cases hf
    exact z_vret X hK dJ7_fill_d0a16_22
  exact z_weak [2, 3, 1, 0] rfl (z_loop (Z := (fun q : Int × Hp => ZV g x 5 q.2 6 [(0, (2, l0)), (1, (1, l1)), (3, (0, q.1)), (4, (0, kL l0))] [])) (E := fun q => q = q6) (fun q y hb hk => z_JA_fillJ_L6 X l0 l1 (kL l0) (fun q => q = q6) hx6_0 q.1 q.2 y hb hk) LN (0, h) q6 hq6 rfl)
set_option maxHeartbeats 4000000 in
set_option maxRecDepth 100000 in
theorem c_Ms_clear {l : Launch} {g : GP} (d : Nat) (hd : 1 ≤ d) (l0 : Int) (h : Hp) (y : Hp) (hf : Ms_clear l0 h = some y) : zM l yX6_clear cX6_clear 1 none d 0 0 g 157 h [(2, l0)] 157 y none := by
  obtain ⟨d, rfl⟩ : ∃ k, d = k + 1 := ⟨d - 1, by omega⟩
  replace hd : 0 ≤ d := Nat.le_of_succ_le_succ hd
  refine z_start (by decide) (Nat.le_of_ble_eq_true rfl) (fun x X hK _ _ _ hl => ?_)
  show ZV g x 1 h 0 [(0, (2, l0))] []
  unfold Ms_clear at hf
  refine z_aload_n X dX6_clear_0 0 rfl ?_
  refine z_iconst X dX6_clear_1 kc_0 ?_
  obtain ⟨g1, hf⟩ := gif hf
  refine y_put X fl_RX6_19 dX6_clear_2 g1 rfl (by decide) ?_
  let h_1 : Hp := hput h l0 0 0
  refine z_aload_n X dX6_clear_5 0 rfl ?_
  refine y_get X fl_RX6_15 dX6_clear_6 g1 ?_
  refine z_lconst0 X dX6_clear_9 ?_
  obtain ⟨r10, hr10, hf⟩ := obE hf
  refine y_S0 X cs_RX6_23 dX6_clear_10 (c_JA_fillJ d (Nat.zero_le _) (h_1 l0 2) 0 h_1 r10 hr10) (as := [(2, h_1 l0 2), (1, 0)]) rfl rfl (Nat.le_of_ble_eq_true rfl) z00 ?_
  cases hf
  exact z_vret X hK dX6_clear_13
set_option maxHeartbeats 4000000 in
set_option maxRecDepth 100000 in
theorem c_Ms_close {l : Launch} {g : GP} (d : Nat) (hd : 0 ≤ d) (l0 l1 : Int) (h : Hp) (y : Hp) (hf : Ms_close l0 l1 h = some y) : zM l yX6_close cX6_close 2 none d 0 0 g 157 h [(2, l0), (0, l1)] 157 y none := by
  refine z_start (by decide) (Nat.le_of_ble_eq_true rfl) (fun x X hK _ _ _ hl => ?_)
  show ZV g x 2 h 0 [(0, (2, l0)), (1, (0, l1))] []
  unfold Ms_close at hf
  refine z_aload_n X dX6_close_0 0 rfl ?_
  obtain ⟨g1, hf⟩ := gif hf
  refine y_get X fl_RX6_19 dX6_close_1 g1 ?_
  refine z_bipush X dX6_close_4 kb_64 kc_64 ?_
  refine z_icmp_ge X dX6_close_6 rfl (fun hc6 => ?_) (fun hc6 => ?_)
  · have hf := ift hc6 hf
    cases hf
    exact z_vret X hK dX6_close_29
  · have hf := iff' hc6 hf
    refine z_aload_n X dX6_close_9 0 rfl ?_
    refine y_get X fl_RX6_11 dX6_close_10 g1 ?_
    refine z_aload_n X dX6_close_13 0 rfl ?_
    refine y_get X fl_RX6_19 dX6_close_14 g1 ?_
    refine z_iload_n X dX6_close_17 1 rfl ?_
    obtain ⟨g2, hf⟩ := gif hf
    refine y_iast X dX6_close_18 g2 ?_
    let h_1 : Hp := hput h (h l0 1) (h l0 0) l1
    refine z_aload_n X dX6_close_19 0 rfl ?_
    refine z_dup X ne2 dX6_close_20 ?_
    refine y_get X fl_RX6_19 dX6_close_21 g1 ?_
    refine z_iconst X dX6_close_24 kc_1 ?_
    refine z_iadd X dX6_close_25 ?_
    refine y_put X fl_RX6_19 dX6_close_26 g1 rfl (by decide) ?_
    let h_2 : Hp := hput h_1 l0 0 (w32 ((h_1 l0 0) + 1))
    cases hf
    exact z_vret X hK dX6_close_29
set_option maxHeartbeats 4000000 in
set_option maxRecDepth 100000 in
theorem c_Ms_has {l : Launch} {g : GP} (d : Nat) (hd : 0 ≤ d) (l0 l1 l2 : Int) (h : Hp) (y : Hp) (hf : Ms_has l0 l1 l2 h = some y) : zM l yX6_has cX6_has 4 none d 0 0 g 157 h [(2, l0), (0, l1), (0, l2)] 157 y none := by
  refine z_start (by decide) (Nat.le_of_ble_eq_true rfl) (fun x X hK _ _ _ hl => ?_)
  show ZV g x 4 h 0 [(0, (2, l0)), (1, (0, l1)), (2, (0, l2))] []
  unfold Ms_has at hf
  refine z_iload_n X dX6_has_0 1 rfl ?_
  refine z_bipush X dX6_has_1 kb_26 kc_26 ?_
  refine z_imul X dX6_has_3 ?_
  refine z_iload_n X dX6_has_4 2 rfl ?_
  refine z_iadd X dX6_has_5 ?_
  refine z_istore_n X dX6_has_6 (by decide) (ls' := [(3, (0, w32 ((w32 (l1 * 26)) + l2))), (0, (2, l0)), (1, (0, l1)), (2, (0, l2))]) rfl ?_
  refine z_aload_n X dX6_has_7 1 rfl ?_
  obtain ⟨g1, hf⟩ := gif hf
  refine y_get X fl_RX6_19 dX6_has_8 g1 ?_
  refine z_bipush X dX6_has_11 kb_64 kc_64 ?_
  refine z_icmp_ge X dX6_has_13 rfl (fun hc13 => ?_) (fun hc13 => ?_)
  · have hf := ift hc13 hf
    cases hf
    exact z_vret X hK dX6_has_44
  · have hf := iff' hc13 hf
    refine z_iload_n X dX6_has_16 0 rfl ?_
    refine z_if_lt X dX6_has_17 rfl (fun hc17 => ?_) (fun hc17 => ?_)
    · have hf := ift hc17 hf
      cases hf
      exact z_vret X hK dX6_has_44
    · have hf := iff' hc17 hf
      refine z_iload_n X dX6_has_20 0 rfl ?_
      refine z_aload_n X dX6_has_21 1 rfl ?_
      refine y_get X fl_RX6_15 dX6_has_22 g1 ?_
      obtain ⟨g2, hf⟩ := gif hf
      refine y_alen X dX6_has_25 (by omega) ?_
      refine z_icmp_ge X dX6_has_26 rfl (fun hc26 => ?_) (fun hc26 => ?_)
      · have hf := ift hc26 hf
        cases hf
        exact z_vret X hK dX6_has_44
      · have hf := iff' hc26 hf
        refine z_aload_n X dX6_has_29 1 rfl ?_
        refine y_get X fl_RX6_15 dX6_has_30 g1 ?_
        refine z_iload_n X dX6_has_33 0 rfl ?_
        refine z_dup2 X ne0 ne2 dX6_has_34 ?_
        obtain ⟨g3, hf⟩ := gif hf
        refine y_lald X dX6_has_35 g3 ?_
        refine z_lconst1 X dX6_has_36 ?_
        refine z_aload_n X dX6_has_37 1 rfl ?_
        refine y_get X fl_RX6_19 dX6_has_38 g1 ?_
        refine z_lshl X dX6_has_41 ?_
        refine z_lor X dX6_has_42 ?_
        refine y_last X dX6_has_43 g3 ?_
        let h_1 : Hp := hput h (h l0 2) (w32 ((w32 (l1 * 26)) + l2)) (l_or (h (h l0 2) (w32 ((w32 (l1 * 26)) + l2))) (l_shl 1 (h l0 0)))
        cases hf
        exact z_vret X hK dX6_has_44
set_option maxHeartbeats 4000000 in
set_option maxRecDepth 100000 in
theorem z_Ms_addChange_j31 {g : GP} {x : CX} {d : Nat} (X : zX g x RX6 cX6_addChange 5 (d + 1)) (hd : 0 ≤ d) (l0 l1 l2 l3 l4 s0 s1 s2 : Int) (h : Hp) (y : (Int × Hp) ⊕ (Hp)) (hf : Ms_addChange_j31 l0 l1 l2 l3 l4 s0 s1 s2 h = some y) (E : Hp → Prop) (hx0 : ∀ e : Hp, E (e) → ZV g x 5 e 40 [(0, (2, l0)), (2, (0, l2)), (3, (0, l3))] []) (hk : z_sum (fun q : Int × Hp => ZV g x 5 q.2 3 [(0, (2, l0)), (1, (2, l1)), (2, (0, l2)), (3, (0, l3)), (4, (0, q.1))] []) E y) : ZV g x 5 h 31 [(0, (2, l0)), (1, (2, l1)), (2, (0, l2)), (3, (0, l3)), (4, (0, l4))] [(0, s0), (0, s1), (2, s2)] := by
  unfold Ms_addChange_j31 at hf
  obtain ⟨g2, hf⟩ := gif hf
  obtain ⟨r31, hr31, hf⟩ := obE hf
  refine y_V0 X cv_RX6_38 dX6_addChange_31 g2 (c_Ms_has d (Nat.zero_le _) s2 s1 s0 h r31 hr31) (as := [(0, s1), (0, s0)]) rfl rfl (Nat.le_of_ble_eq_true rfl) z00 ?_
  refine z_iinc X dX6_addChange_34 4 rfl (by decide) (ls' := [(4, (0, w32 (l4 + 1))), (0, (2, l0)), (1, (2, l1)), (2, (0, l2)), (3, (0, l3))]) rfl ?_
  refine z_goto X dX6_addChange_37 rfl ?_
  cases hf
  exact z_weak [1, 2, 3, 4, 0] rfl hk
set_option maxHeartbeats 4000000 in
set_option maxRecDepth 100000 in
theorem z_Ms_addChange_L3 {g : GP} {x : CX} {d : Nat} (X : zX g x RX6 cX6_addChange 5 (d + 1)) (hd : 0 ≤ d) (l0 l1 l2 l3 : Int)  (E : Hp → Prop) (hx0 : ∀ e : Hp, E (e) → ZV g x 5 e 40 [(0, (2, l0)), (2, (0, l2)), (3, (0, l3))] []) (l4 : Int) (h : Hp) (y : (Int × Hp) ⊕ (Hp)) (hf : Ms_addChange_L3 l0 l1 l2 l3 l4 h = some y) (hk : z_sum (fun q : Int × Hp => ZV g x 5 q.2 3 [(0, (2, l0)), (1, (2, l1)), (2, (0, l2)), (3, (0, l3)), (4, (0, q.1))] []) E y) : ZV g x 5 h 3 [(0, (2, l0)), (1, (2, l1)), (2, (0, l2)), (3, (0, l3)), (4, (0, l4))] [] := by
  unfold Ms_addChange_L3 at hf
  refine z_iload X dX6_addChange_3 4 rfl ?_
  refine z_aload_n X dX6_addChange_5 1 rfl ?_
  obtain ⟨g1, hf⟩ := gif hf
  refine y_get X fl_RX6_29 dX6_addChange_6 g1 ?_
  refine z_icmp_ge X dX6_addChange_9 rfl (fun hc9 => ?_) (fun hc9 => ?_)
  · have hf := ift hc9 hf
    cases hf
    exact z_weak [0, 2, 3] rfl (hx0 _ hk)
  · have hf := iff' hc9 hf
    refine z_aload_n X dX6_addChange_12 0 rfl ?_
    refine z_iload X dX6_addChange_13 4 rfl ?_
    refine z_iload X dX6_addChange_15 4 rfl ?_
    refine z_iload_n X dX6_addChange_17 2 rfl ?_
    refine z_icmp_ne X dX6_addChange_18 rfl (fun hc18 => ?_) (fun hc18 => ?_)
    · have hf := iff' hc18 hf
      refine z_aload_n X dX6_addChange_25 1 rfl ?_
      refine z_iload X dX6_addChange_26 4 rfl ?_
      obtain ⟨r28, hr28, hf⟩ := obE hf
      refine y_V1 X cv_RX6_34 dX6_addChange_28 g1 (c_By_at d (Nat.zero_le _) l1 l4 h r28 hr28) (as := [(0, l4)]) rfl rfl (Nat.le_of_ble_eq_true rfl) z00 ?_
      exact (z_Ms_addChange_j31 X hd l0 l1 l2 l3 l4 r28 l4 l0 h _ hf E hx0 hk)
    · have hf := ift hc18 hf
      refine z_iload_n X dX6_addChange_21 3 rfl ?_
      refine z_goto X dX6_addChange_22 rfl ?_
      exact (z_Ms_addChange_j31 X hd l0 l1 l2 l3 l4 l3 l4 l0 h _ hf E hx0 hk)
set_option maxHeartbeats 4000000 in
set_option maxRecDepth 100000 in
theorem c_Ms_addChange {l : Launch} {g : GP} (d : Nat) (hd : 1 ≤ d) (l0 l1 l2 l3 : Int) (h : Hp) (y : Hp) (hf : Ms_addChange l0 l1 l2 l3 h = some y) : zM l yX6_addChange cX6_addChange 5 none d 0 0 g 157 h [(2, l0), (2, l1), (0, l2), (0, l3)] 157 y none := by
  obtain ⟨d, rfl⟩ : ∃ k, d = k + 1 := ⟨d - 1, by omega⟩
  replace hd : 0 ≤ d := Nat.le_of_succ_le_succ hd
  refine z_start (by decide) (Nat.le_of_ble_eq_true rfl) (fun x X hK _ _ _ hl => ?_)
  show ZV g x 5 h 0 [(0, (2, l0)), (1, (2, l1)), (2, (0, l2)), (3, (0, l3))] []
  unfold Ms_addChange at hf
  refine z_iconst X dX6_addChange_0 kc_0 ?_
  refine z_istore X dX6_addChange_1 (by decide) (ls' := [(4, (0, 0)), (0, (2, l0)), (1, (2, l1)), (2, (0, l2)), (3, (0, l3))]) rfl ?_
  obtain ⟨q3, hq3, hf⟩ := obE hf
  have hx3_0 : ∀ e40 : Hp, (e40 : Hp) = q3 → ZV g x 5 e40 40 [(0, (2, l0)), (2, (0, l2)), (3, (0, l3))] [] := by
    intro e40 hq
    subst hq
    refine z_aload_n X dX6_addChange_40 0 rfl ?_
    refine z_bipush X dX6_addChange_41 kb_100 kc_100 ?_
    refine z_iload_n X dX6_addChange_43 1 rfl ?_
    refine z_imul X dX6_addChange_44 ?_
    refine z_iload_n X dX6_addChange_45 2 rfl ?_
    refine z_iadd X dX6_addChange_46 ?_
    obtain ⟨g3, hf⟩ := gif hf
    obtain ⟨r47, hr47, hf⟩ := obE hf
    refine y_V0 X cv_RX6_42 dX6_addChange_47 g3 (c_Ms_close d (Nat.zero_le _) l0 (w32 ((w32 (100 * l2)) + l3)) e40 r47 hr47) (as := [(0, w32 ((w32 (100 * l2)) + l3))]) rfl rfl (Nat.le_of_ble_eq_true rfl) z00 ?_
    cases hf
    exact z_vret X hK dX6_addChange_50
  exact z_weak [1, 2, 3, 4, 0] rfl (z_loop (Z := (fun q : Int × Hp => ZV g x 5 q.2 3 [(0, (2, l0)), (1, (2, l1)), (2, (0, l2)), (3, (0, l3)), (4, (0, q.1))] [])) (E := fun q => q = q3) (fun q y hb hk => z_Ms_addChange_L3 X hd l0 l1 l2 l3 (fun q => q = q3) hx3_0 q.1 q.2 y hb hk) LN (0, h) q3 hq3 rfl)
set_option maxHeartbeats 4000000 in
set_option maxRecDepth 100000 in
theorem z_Ms_letterOf_j28 {g : GP} {x : CX} {d : Nat} (X : zX g x RX6 cX6_letterOf 4 d) (l0 l2 l3 : Int) (h : Hp) (y : (Int × Int) ⊕ ((Int) ⊕ (Unit))) (hf : Ms_letterOf_j28 l0 l2 l3 = some y) (E : (Int) ⊕ (Unit) → Prop) (hx0 : ∀ e : Int, E (.inl e) → ZV g x 4 h 23 [(3, (0, e))] []) (hx1 : ∀ e : Unit, E (.inr e) → ZV g x 4 h 34 [] []) (hk : z_sum (fun q : Int × Int => ZV g x 4 h 4 [(0, (0, l0)), (2, (0, q.1)), (3, (0, q.2))] []) E y) : ZV g x 4 h 28 [(0, (0, l0)), (2, (0, l2)), (3, (0, l3))] [] := by
  unfold Ms_letterOf_j28 at hf
  refine z_iinc X dX6_letterOf_28 2 rfl (by decide) (ls' := [(3, (0, w32 (l3 + 1))), (0, (0, l0)), (2, (0, l2))]) rfl ?_
  refine z_goto X dX6_letterOf_31 rfl ?_
  cases hf
  exact z_weak [1, 2, 0] rfl hk
set_option maxHeartbeats 4000000 in
set_option maxRecDepth 100000 in
theorem z_Ms_letterOf_L4 {g : GP} {x : CX} {d : Nat} (X : zX g x RX6 cX6_letterOf 4 d) (l0 : Int) (h : Hp) (E : (Int) ⊕ (Unit) → Prop) (hx0 : ∀ e : Int, E (.inl e) → ZV g x 4 h 23 [(3, (0, e))] []) (hx1 : ∀ e : Unit, E (.inr e) → ZV g x 4 h 34 [] []) (l2 l3 : Int) (y : (Int × Int) ⊕ ((Int) ⊕ (Unit))) (hf : Ms_letterOf_L4 l0 l2 l3 = some y) (hk : z_sum (fun q : Int × Int => ZV g x 4 h 4 [(0, (0, l0)), (2, (0, q.1)), (3, (0, q.2))] []) E y) : ZV g x 4 h 4 [(0, (0, l0)), (2, (0, l2)), (3, (0, l3))] [] := by
  unfold Ms_letterOf_L4 at hf
  refine z_iload_n X dX6_letterOf_4 2 rfl ?_
  refine z_bipush X dX6_letterOf_5 kb_26 kc_26 ?_
  refine z_icmp_ge X dX6_letterOf_7 rfl (fun hc7 => ?_) (fun hc7 => ?_)
  · have hf := ift hc7 hf
    cases hf
    exact z_weak [] rfl (hx1 _ hk)
  · have hf := iff' hc7 hf
    refine z_iload_n X dX6_letterOf_10 0 rfl ?_
    refine z_iload_n X dX6_letterOf_11 2 rfl ?_
    refine z_ishr X dX6_letterOf_12 ?_
    refine z_iconst X dX6_letterOf_13 kc_1 ?_
    refine z_iand X dX6_letterOf_14 ?_
    refine z_iconst X dX6_letterOf_15 kc_1 ?_
    refine z_icmp_ne X dX6_letterOf_16 rfl (fun hc16 => ?_) (fun hc16 => ?_)
    · have hf := iff' hc16 hf
      exact (z_Ms_letterOf_j28 X l0 l2 l3 h _ hf E hx0 hx1 hk)
    · have hf := ift hc16 hf
      refine z_iload_n X dX6_letterOf_19 1 rfl ?_
      refine z_if_ne X dX6_letterOf_20 rfl (fun hc20 => ?_) (fun hc20 => ?_)
      · have hf := iff' hc20 hf
        refine z_iinc X dX6_letterOf_25 1 rfl (by decide) (ls' := [(2, (0, w32 (l2 + (-1)))), (0, (0, l0)), (3, (0, l3))]) rfl ?_
        exact z_weak [1, 0, 2] rfl (z_Ms_letterOf_j28 X l0 (w32 (l2 + (-1))) l3 h _ hf E hx0 hx1 hk)
      · have hf := ift hc20 hf
        cases hf
        exact z_weak [2] rfl (hx0 _ hk)
set_option maxHeartbeats 4000000 in
set_option maxRecDepth 100000 in
theorem c_Ms_letterOf {l : Launch} {g : GP} (d : Nat) (hd : 0 ≤ d) (l0 l1 : Int) (h : Hp) (y : Int) (hf : Ms_letterOf l0 l1 = some y) : zM l yX6_letterOf cX6_letterOf 4 (some .int) d 0 0 g 157 h [(0, l0), (0, l1)] 157 h (some (0, y)) := by
  refine z_start (by decide) (Nat.le_of_ble_eq_true rfl) (fun x X hK _ _ _ hl => ?_)
  show ZV g x 4 h 0 [(0, (0, l0)), (1, (0, l1))] []
  unfold Ms_letterOf at hf
  refine z_iload_n X dX6_letterOf_0 1 rfl ?_
  refine z_istore_n X dX6_letterOf_1 (by decide) (ls' := [(2, (0, l1)), (0, (0, l0)), (1, (0, l1))]) rfl ?_
  refine z_iconst X dX6_letterOf_2 kc_0 ?_
  refine z_istore_n X dX6_letterOf_3 (by decide) (ls' := [(3, (0, 0)), (2, (0, l1)), (0, (0, l0)), (1, (0, l1))]) rfl ?_
  obtain ⟨q4, hq4, hf⟩ := obE hf
  have hx4_0 : ∀ e23 : Int, (.inl e23 : (Int) ⊕ (Unit)) = q4 → ZV g x 4 h 23 [(3, (0, e23))] [] := by
    intro e23 hq
    subst hq
    dsimp only at hf
    refine z_iload_n X dX6_letterOf_23 0 rfl ?_
    cases hf
    exact z_iret X hK dX6_letterOf_24
  have hx4_1 : ∀ e34 : Unit, (.inr e34 : (Int) ⊕ (Unit)) = q4 → ZV g x 4 h 34 [] [] := by
    intro e34 hq
    subst hq
    dsimp only at hf
    refine z_iconst X dX6_letterOf_34 kc_0 ?_
    cases hf
    exact z_iret X hK dX6_letterOf_35
  exact z_weak [2, 1, 0] rfl (z_loop (Z := (fun q : Int × Int => ZV g x 4 h 4 [(0, (0, l0)), (2, (0, q.1)), (3, (0, q.2))] [])) (E := fun q => q = q4) (fun q y hb hk => z_Ms_letterOf_L4 X l0 h (fun q => q = q4) hx4_0 hx4_1 q.1 q.2 y hb hk) LN (l1, 0) q4 hq4 rfl)
set_option maxHeartbeats 4000000 in
set_option maxRecDepth 100000 in
theorem z_Ms_addSentence_j50 {g : GP} {x : CX} {d : Nat} (X : zX g x RX6 cX6_addSentence 10 (d + 1)) (hd : 0 ≤ d) (l0 l1 l2 l6 l7 l8 l9 s0 : Int) (h : Hp) (y : (Int × Int × Int × Int × Hp) ⊕ (Int × Hp)) (hf : Ms_addSentence_j50 l0 l1 l2 l6 l7 l8 l9 s0 h = some y) (E : Int × Hp → Prop) (hx0 : ∀ e : Int × Hp, E (e) → ZV g x 10 e.2 85 [(0, (2, l0)), (6, (0, e.1))] []) (hk : z_sum (fun q : Int × Int × Int × Int × Hp => ZV g x 10 q.2.2.2.2 15 [(0, (2, l0)), (1, (0, l1)), (2, (0, l2)), (5, (0, q.1)), (6, (0, q.2.1)), (7, (0, q.2.2.1)), (8, (0, q.2.2.2.1))] []) E y) : ZV g x 10 h 50 [(0, (2, l0)), (1, (0, l1)), (2, (0, l2)), (6, (0, l6)), (7, (0, l7)), (8, (0, l8)), (9, (0, l9))] [(0, s0)] := by
  unfold Ms_addSentence_j50 at hf
  refine z_istore X dX6_addSentence_50 (by decide) (ls' := [(5, (0, s0)), (0, (2, l0)), (1, (0, l1)), (2, (0, l2)), (6, (0, l6)), (7, (0, l7)), (8, (0, l8)), (9, (0, l9))]) rfl ?_
  refine z_aload_n X dX6_addSentence_52 1 rfl ?_
  refine z_iload X dX6_addSentence_53 6 rfl ?_
  refine z_iload X dX6_addSentence_55 7 rfl ?_
  obtain ⟨g3, hf⟩ := gif hf
  obtain ⟨r57, hr57, hf⟩ := obE hf
  refine y_V0 X cv_RX6_38 dX6_addSentence_57 g3 (c_Ms_has d (Nat.zero_le _) l0 l8 l9 h r57 hr57) (as := [(0, l8), (0, l9)]) rfl rfl (Nat.le_of_ble_eq_true rfl) z00 ?_
  refine z_iload X dX6_addSentence_60 4 rfl ?_
  refine z_iload X dX6_addSentence_62 5 rfl ?_
  refine z_iload X dX6_addSentence_64 7 rfl ?_
  refine z_iconst X dX6_addSentence_66 kc_1 ?_
  refine z_iadd X dX6_addSentence_67 ?_
  refine z_imul X dX6_addSentence_68 ?_
  refine z_iadd X dX6_addSentence_69 ?_
  refine z_istore X dX6_addSentence_70 (by decide) (ls' := [(6, (0, w32 (l6 + (w32 (l7 * (w32 (l9 + 1))))))), (5, (0, s0)), (0, (2, l0)), (1, (0, l1)), (2, (0, l2)), (7, (0, l7)), (8, (0, l8)), (9, (0, l9))]) rfl ?_
  refine z_iload X dX6_addSentence_72 5 rfl ?_
  refine z_bipush X dX6_addSentence_74 kb_27 kc_27 ?_
  refine z_imul X dX6_addSentence_76 ?_
  refine z_istore X dX6_addSentence_77 (by decide) (ls' := [(7, (0, w32 (l7 * 27))), (6, (0, w32 (l6 + (w32 (l7 * (w32 (l9 + 1))))))), (5, (0, s0)), (0, (2, l0)), (1, (0, l1)), (2, (0, l2)), (8, (0, l8)), (9, (0, l9))]) rfl ?_
  refine z_iinc X dX6_addSentence_79 6 rfl (by decide) (ls' := [(8, (0, w32 (l8 + (-1)))), (7, (0, w32 (l7 * 27))), (6, (0, w32 (l6 + (w32 (l7 * (w32 (l9 + 1))))))), (5, (0, s0)), (0, (2, l0)), (1, (0, l1)), (2, (0, l2)), (9, (0, l9))]) rfl ?_
  refine z_goto X dX6_addSentence_82 rfl ?_
  cases hf
  exact z_weak [4, 5, 6, 3, 2, 1, 0] rfl hk
set_option maxHeartbeats 4000000 in
set_option maxRecDepth 100000 in
theorem z_Ms_addSentence_j36 {g : GP} {x : CX} {d : Nat} (X : zX g x RX6 cX6_addSentence 10 (d + 1)) (hd : 0 ≤ d) (l0 l1 l2 l5 l6 l7 l8 s0 : Int) (h : Hp) (y : (Int × Int × Int × Int × Hp) ⊕ (Int × Hp)) (hf : Ms_addSentence_j36 l0 l1 l2 l5 l6 l7 l8 s0 h = some y) (E : Int × Hp → Prop) (hx0 : ∀ e : Int × Hp, E (e) → ZV g x 10 e.2 85 [(0, (2, l0)), (6, (0, e.1))] []) (hk : z_sum (fun q : Int × Int × Int × Int × Hp => ZV g x 10 q.2.2.2.2 15 [(0, (2, l0)), (1, (0, l1)), (2, (0, l2)), (5, (0, q.1)), (6, (0, q.2.1)), (7, (0, q.2.2.1)), (8, (0, q.2.2.2.1))] []) E y) : ZV g x 10 h 36 [(0, (2, l0)), (1, (0, l1)), (2, (0, l2)), (5, (0, l5)), (6, (0, l6)), (7, (0, l7)), (8, (0, l8))] [(0, s0)] := by
  unfold Ms_addSentence_j36 at hf
  refine z_istore X dX6_addSentence_36 (by decide) (ls' := [(9, (0, s0)), (0, (2, l0)), (1, (0, l1)), (2, (0, l2)), (5, (0, l5)), (6, (0, l6)), (7, (0, l7)), (8, (0, l8))]) rfl ?_
  refine z_iload_n X dX6_addSentence_38 3 rfl ?_
  refine z_if_ne X dX6_addSentence_39 rfl (fun hc39 => ?_) (fun hc39 => ?_)
  · have hf := iff' hc39 hf
    refine z_iload X dX6_addSentence_46 4 rfl ?_
    refine z_iload_n X dX6_addSentence_48 3 rfl ?_
    obtain ⟨g2, hf⟩ := gif hf
    refine z_idiv X dX6_addSentence_49 g2 ?_
    exact z_weak [1, 2, 3, 5, 6, 7, 0] rfl (z_Ms_addSentence_j50 X hd l0 l1 l2 l6 l7 l8 s0 (w32 (Int.tdiv l5 l2)) h _ hf E hx0 hk)
  · have hf := ift hc39 hf
    refine z_iconst X dX6_addSentence_42 kc_0 ?_
    refine z_goto X dX6_addSentence_43 rfl ?_
    exact z_weak [1, 2, 3, 5, 6, 7, 0] rfl (z_Ms_addSentence_j50 X hd l0 l1 l2 l6 l7 l8 s0 0 h _ hf E hx0 hk)
set_option maxHeartbeats 4000000 in
set_option maxRecDepth 100000 in
theorem z_Ms_addSentence_L15 {g : GP} {x : CX} {d : Nat} (X : zX g x RX6 cX6_addSentence 10 (d + 1)) (hd : 0 ≤ d) (l0 l1 l2 : Int)  (E : Int × Hp → Prop) (hx0 : ∀ e : Int × Hp, E (e) → ZV g x 10 e.2 85 [(0, (2, l0)), (6, (0, e.1))] []) (l5 l6 l7 l8 : Int) (h : Hp) (y : (Int × Int × Int × Int × Hp) ⊕ (Int × Hp)) (hf : Ms_addSentence_L15 l0 l1 l2 l5 l6 l7 l8 h = some y) (hk : z_sum (fun q : Int × Int × Int × Int × Hp => ZV g x 10 q.2.2.2.2 15 [(0, (2, l0)), (1, (0, l1)), (2, (0, l2)), (5, (0, q.1)), (6, (0, q.2.1)), (7, (0, q.2.2.1)), (8, (0, q.2.2.2.1))] []) E y) : ZV g x 10 h 15 [(0, (2, l0)), (1, (0, l1)), (2, (0, l2)), (5, (0, l5)), (6, (0, l6)), (7, (0, l7)), (8, (0, l8))] [] := by
  unfold Ms_addSentence_L15 at hf
  refine z_iload X dX6_addSentence_15 6 rfl ?_
  refine z_if_lt X dX6_addSentence_17 rfl (fun hc17 => ?_) (fun hc17 => ?_)
  · have hf := ift hc17 hf
    cases hf
    exact z_weak [0, 4] rfl (hx0 _ hk)
  · have hf := iff' hc17 hf
    refine z_iload_n X dX6_addSentence_20 2 rfl ?_
    refine z_if_ne X dX6_addSentence_21 rfl (fun hc21 => ?_) (fun hc21 => ?_)
    · have hf := iff' hc21 hf
      refine z_iload_n X dX6_addSentence_28 1 rfl ?_
      refine z_iload X dX6_addSentence_29 3 rfl ?_
      refine z_iload_n X dX6_addSentence_31 2 rfl ?_
      obtain ⟨g1, hf⟩ := gif hf
      refine z_irem X dX6_addSentence_32 g1 ?_
      obtain ⟨r33, hr33, hf⟩ := obE hf
      refine y_S1 X cs_RX6_46 dX6_addSentence_33 (c_Ms_letterOf d (Nat.zero_le _) l1 (w32 (Int.tmod l5 l2)) h r33 hr33) (as := [(0, l1), (0, w32 (Int.tmod l5 l2))]) rfl rfl (Nat.le_of_ble_eq_true rfl) z00 ?_
      exact (z_Ms_addSentence_j36 X hd l0 l1 l2 l5 l6 l7 l8 r33 h _ hf E hx0 hk)
    · have hf := ift hc21 hf
      refine z_iconst X dX6_addSentence_24 kc_0 ?_
      refine z_goto X dX6_addSentence_25 rfl ?_
      exact (z_Ms_addSentence_j36 X hd l0 l1 l2 l5 l6 l7 l8 0 h _ hf E hx0 hk)
set_option maxHeartbeats 4000000 in
set_option maxRecDepth 100000 in
theorem c_Ms_addSentence {l : Launch} {g : GP} (d : Nat) (hd : 1 ≤ d) (l0 l1 l2 l3 l4 : Int) (h : Hp) (y : Hp) (hf : Ms_addSentence l0 l1 l2 l3 l4 h = some y) : zM l yX6_addSentence cX6_addSentence 10 none d 0 0 g 157 h [(2, l0), (0, l1), (0, l2), (0, l3), (0, l4)] 157 y none := by
  obtain ⟨d, rfl⟩ : ∃ k, d = k + 1 := ⟨d - 1, by omega⟩
  replace hd : 0 ≤ d := Nat.le_of_succ_le_succ hd
  refine z_start (by decide) (Nat.le_of_ble_eq_true rfl) (fun x X hK _ _ _ hl => ?_)
  show ZV g x 10 h 0 [(0, (2, l0)), (1, (0, l1)), (2, (0, l2)), (3, (0, l3)), (4, (0, l4))] []
  unfold Ms_addSentence at hf
  refine z_iload X dX6_addSentence_0 4 rfl ?_
  refine z_istore X dX6_addSentence_2 (by decide) (ls' := [(5, (0, l4)), (0, (2, l0)), (1, (0, l1)), (2, (0, l2)), (3, (0, l3)), (4, (0, l4))]) rfl ?_
  refine z_iconst X dX6_addSentence_4 kc_0 ?_
  refine z_istore X dX6_addSentence_5 (by decide) (ls' := [(6, (0, 0)), (5, (0, l4)), (0, (2, l0)), (1, (0, l1)), (2, (0, l2)), (3, (0, l3)), (4, (0, l4))]) rfl ?_
  refine z_iconst X dX6_addSentence_7 kc_1 ?_
  refine z_istore X dX6_addSentence_8 (by decide) (ls' := [(7, (0, 1)), (6, (0, 0)), (5, (0, l4)), (0, (2, l0)), (1, (0, l1)), (2, (0, l2)), (3, (0, l3)), (4, (0, l4))]) rfl ?_
  refine z_iload_n X dX6_addSentence_10 6 rfl ?_
  refine z_iconst X dX6_addSentence_11 kc_1 ?_
  refine z_isub X dX6_addSentence_12 ?_
  refine z_istore X dX6_addSentence_13 (by decide) (ls' := [(8, (0, w32 (l3 - 1))), (7, (0, 1)), (6, (0, 0)), (5, (0, l4)), (0, (2, l0)), (1, (0, l1)), (2, (0, l2)), (3, (0, l3)), (4, (0, l4))]) rfl ?_
  obtain ⟨q15, hq15, hf⟩ := obE hf
  have hx15_0 : ∀ e85 : Int × Hp, (e85 : Int × Hp) = q15 → ZV g x 10 e85.2 85 [(0, (2, l0)), (6, (0, e85.1))] [] := by
    intro e85 hq
    subst hq
    refine z_aload_n X dX6_addSentence_85 0 rfl ?_
    refine z_iload X dX6_addSentence_86 1 rfl ?_
    obtain ⟨g4, hf⟩ := gif hf
    obtain ⟨r88, hr88, hf⟩ := obE hf
    refine y_V0 X cv_RX6_42 dX6_addSentence_88 g4 (c_Ms_close d (Nat.zero_le _) l0 e85.1 e85.2 r88 hr88) (as := [(0, e85.1)]) rfl rfl (Nat.le_of_ble_eq_true rfl) z00 ?_
    cases hf
    exact z_vret X hK dX6_addSentence_91
  exact z_weak [4, 5, 6, 3, 2, 1, 0] rfl (z_loop (Z := (fun q : Int × Int × Int × Int × Hp => ZV g x 10 q.2.2.2.2 15 [(0, (2, l0)), (1, (0, l1)), (2, (0, l2)), (5, (0, q.1)), (6, (0, q.2.1)), (7, (0, q.2.2.1)), (8, (0, q.2.2.2.1))] [])) (E := fun q => q = q15) (fun q y hb hk => z_Ms_addSentence_L15 X hd l0 l1 l2 (fun q => q = q15) hx15_0 q.1 q.2.1 q.2.2.1 q.2.2.2.1 q.2.2.2.2 y hb hk) LN (l4, 0, 1, w32 (l3 - 1), h) q15 hq15 rfl)
set_option maxHeartbeats 4000000 in
set_option maxRecDepth 100000 in
theorem z_SR_isDigit_j16 {g : GP} {x : CX} {d : Nat} (X : zX g x RX7 cX7_isDigit 1 d) (h : Hp) (y : Int) (hf : SR_isDigit_j16  = some y) (hK : zE g x (some .boolean) 0 0 157 h (some (0, y))) : ZV g x 1 h 16 [] [] := by
  unfold SR_isDigit_j16 at hf
  refine z_iconst X dX7_isDigit_16 kc_0 ?_
  cases hf
  exact z_zret X hK (Or.inl rfl) dX7_isDigit_17
set_option maxHeartbeats 4000000 in
set_option maxRecDepth 100000 in
theorem c_SR_isDigit {l : Launch} {g : GP} (d : Nat) (hd : 0 ≤ d) (l0 : Int) (h : Hp) (y : Int) (hf : SR_isDigit l0 = some y) : zM l yX7_isDigit cX7_isDigit 1 (some .boolean) d 0 0 g 157 h [(0, l0)] 157 h (some (0, y)) := by
  refine z_start (by decide) (Nat.le_of_ble_eq_true rfl) (fun x X hK _ _ _ hl => ?_)
  show ZV g x 1 h 0 [(0, (0, l0))] []
  unfold SR_isDigit at hf
  refine z_iload_n X dX7_isDigit_0 0 rfl ?_
  refine z_bipush X dX7_isDigit_1 kb_48 kc_48 ?_
  refine z_icmp_lt X dX7_isDigit_3 rfl (fun hc3 => ?_) (fun hc3 => ?_)
  · have hf := ift hc3 hf
    exact z_weak [] rfl (z_SR_isDigit_j16 X  h _ hf hK)
  · have hf := iff' hc3 hf
    refine z_iload_n X dX7_isDigit_6 0 rfl ?_
    refine z_bipush X dX7_isDigit_7 kb_57 kc_57 ?_
    refine z_icmp_gt X dX7_isDigit_9 rfl (fun hc9 => ?_) (fun hc9 => ?_)
    · have hf := ift hc9 hf
      exact z_weak [] rfl (z_SR_isDigit_j16 X  h _ hf hK)
    · have hf := iff' hc9 hf
      refine z_iconst X dX7_isDigit_12 kc_1 ?_
      refine z_goto X dX7_isDigit_13 rfl ?_
      cases hf
      exact z_zret X hK (Or.inr rfl) dX7_isDigit_17
set_option maxHeartbeats 4000000 in
set_option maxRecDepth 100000 in
theorem z_SR_readNumber_L23 {g : GP} {x : CX} {d : Nat} (X : zX g x RX7 cX7_readNumber 2 (d + 1)) (hd : 0 ≤ d) (l0 : Int)  (E : Int × Hp → Prop) (hx0 : ∀ e : Int × Hp, E (e) → ZV g x 2 e.2 92 [(0, (2, l0)), (1, (0, e.1))] []) (l1 : Int) (h : Hp) (y : (Int × Hp) ⊕ (Int × Hp)) (hf : SR_readNumber_L23 l0 l1 h = some y) (hk : z_sum (fun q : Int × Hp => ZV g x 2 q.2 23 [(0, (2, l0)), (1, (0, q.1))] []) E y) : ZV g x 2 h 23 [(0, (2, l0)), (1, (0, l1))] [] := by
  unfold SR_readNumber_L23 at hf
  refine z_aload_n X dX7_readNumber_23 0 rfl ?_
  obtain ⟨g3, hf⟩ := gif hf
  refine y_get X fl_RX7_38 dX7_readNumber_24 g3 ?_
  refine z_aload_n X dX7_readNumber_27 0 rfl ?_
  refine y_get X fl_RX7_14 dX7_readNumber_28 g3 ?_
  obtain ⟨g4, hf⟩ := gif hf
  refine y_get X fl_RX7_41 dX7_readNumber_31 g4 ?_
  refine z_icmp_ge X dX7_readNumber_34 rfl (fun hc34 => ?_) (fun hc34 => ?_)
  · have hf := ift hc34 hf
    cases hf
    exact (hx0 _ hk)
  · have hf := iff' hc34 hf
    refine z_aload_n X dX7_readNumber_37 0 rfl ?_
    refine y_get X fl_RX7_14 dX7_readNumber_38 g3 ?_
    refine z_aload_n X dX7_readNumber_41 0 rfl ?_
    refine y_get X fl_RX7_38 dX7_readNumber_42 g3 ?_
    obtain ⟨r45, hr45, hf⟩ := obE hf
    refine y_V1 X cv_RX7_52 dX7_readNumber_45 g4 (c_By_at d (Nat.zero_le _) (h l0 0) (h l0 3) h r45 hr45) (as := [(0, h l0 3)]) rfl rfl (Nat.le_of_ble_eq_true rfl) z00 ?_
    obtain ⟨r48, hr48, hf⟩ := obE hf
    refine y_S1 X cs_RX7_54 dX7_readNumber_48 (c_SR_isDigit d (Nat.zero_le _) r45 h r48 hr48) (as := [(0, r45)]) rfl rfl (Nat.le_of_ble_eq_true rfl) z00 ?_
    refine z_if_eq X dX7_readNumber_51 rfl (fun hc51 => ?_) (fun hc51 => ?_)
    · have hf := ift hc51 hf
      cases hf
      exact (hx0 _ hk)
    · have hf := iff' hc51 hf
      refine z_ldc X ki_RX7_58 kc_1000000 dX7_readNumber_54 ?_
      refine z_bipush X dX7_readNumber_56 kb_10 kc_10 ?_
      refine z_iload_n X dX7_readNumber_58 1 rfl ?_
      refine z_imul X dX7_readNumber_59 ?_
      refine z_aload_n X dX7_readNumber_60 0 rfl ?_
      refine y_get X fl_RX7_14 dX7_readNumber_61 g3 ?_
      refine z_aload_n X dX7_readNumber_64 0 rfl ?_
      refine y_get X fl_RX7_38 dX7_readNumber_65 g3 ?_
      obtain ⟨r68, hr68, hf⟩ := obE hf
      refine y_V1 X cv_RX7_52 dX7_readNumber_68 g4 (c_By_at d (Nat.zero_le _) (h l0 0) (h l0 3) h r68 hr68) (as := [(0, h l0 3)]) rfl rfl (Nat.le_of_ble_eq_true rfl) z00 ?_
      refine z_iadd X dX7_readNumber_71 ?_
      refine z_bipush X dX7_readNumber_72 kb_48 kc_48 ?_
      refine z_isub X dX7_readNumber_74 ?_
      refine y_min X cm_RX7_59 dX7_readNumber_75 (Nat.le_of_ble_eq_true rfl) ?_
      refine z_istore_n X dX7_readNumber_78 (by decide) (ls' := [(1, (0, min 1000000 (w32 ((w32 ((w32 (10 * l1)) + r68)) - 48)))), (0, (2, l0))]) rfl ?_
      refine z_aload_n X dX7_readNumber_79 1 rfl ?_
      refine z_dup X ne2 dX7_readNumber_80 ?_
      refine y_get X fl_RX7_38 dX7_readNumber_81 g3 ?_
      refine z_iconst X dX7_readNumber_84 kc_1 ?_
      refine z_iadd X dX7_readNumber_85 ?_
      refine y_put X fl_RX7_38 dX7_readNumber_86 g3 rfl (by decide) ?_
      let h_1 : Hp := hput h l0 3 (w32 ((h l0 3) + 1))
      refine z_goto X dX7_readNumber_89 rfl ?_
      cases hf
      exact z_weak [1, 0] rfl hk
set_option maxHeartbeats 4000000 in
set_option maxRecDepth 100000 in
theorem z_SR_readNumber_j22 {g : GP} {x : CX} {d : Nat} (X : zX g x RX7 cX7_readNumber 2 (d + 1)) (hd : 0 ≤ d) (l0 s0 : Int) (h : Hp) (y : Int × Hp) (hf : SR_readNumber_j22 l0 s0 h = some y) (hK : zE g x (some .int) 0 0 157 y.2 (some (0, y.1))) : ZV g x 2 h 22 [(0, (2, l0))] [(0, s0)] := by
  unfold SR_readNumber_j22 at hf
  refine z_istore_n X dX7_readNumber_22 (by decide) (ls' := [(1, (0, s0)), (0, (2, l0))]) rfl ?_
  obtain ⟨q23, hq23, hf⟩ := obE hf
  have hx23_0 : ∀ e92 : Int × Hp, (e92 : Int × Hp) = q23 → ZV g x 2 e92.2 92 [(0, (2, l0)), (1, (0, e92.1))] [] := by
    intro e92 hq
    subst hq
    refine z_aload_n X dX7_readNumber_92 0 rfl ?_
    refine z_aload_n X dX7_readNumber_93 0 rfl ?_
    obtain ⟨g5, hf⟩ := gif hf
    refine y_get X fl_RX7_14 dX7_readNumber_94 g5 ?_
    refine z_aload_n X dX7_readNumber_97 0 rfl ?_
    refine y_get X fl_RX7_38 dX7_readNumber_98 g5 ?_
    obtain ⟨g6, hf⟩ := gif hf
    obtain ⟨r101, hr101, hf⟩ := obE hf
    refine y_V1 X cv_RX7_34 dX7_readNumber_101 g6 (c_By_afterBlanks d (Nat.zero_le _) (e92.2 l0 0) (e92.2 l0 3) e92.2 r101 hr101) (as := [(0, e92.2 l0 3)]) rfl rfl (Nat.le_of_ble_eq_true rfl) z00 ?_
    refine y_put X fl_RX7_38 dX7_readNumber_104 g5 rfl (by decide) ?_
    let h_2 : Hp := hput e92.2 l0 3 r101
    refine z_iload_n X dX7_readNumber_107 1 rfl ?_
    cases hf
    exact z_iret X hK dX7_readNumber_108
  exact z_weak [1, 0] rfl (z_loop (Z := (fun q : Int × Hp => ZV g x 2 q.2 23 [(0, (2, l0)), (1, (0, q.1))] [])) (E := fun q => q = q23) (fun q y hb hk => z_SR_readNumber_L23 X hd l0 (fun q => q = q23) hx23_0 q.1 q.2 y hb hk) LN (s0, h) q23 hq23 rfl)
set_option maxHeartbeats 4000000 in
set_option maxRecDepth 100000 in
theorem c_SR_readNumber {l : Launch} {g : GP} (d : Nat) (hd : 1 ≤ d) (l0 : Int) (h : Hp) (y : Int × Hp) (hf : SR_readNumber l0 h = some y) : zM l yX7_readNumber cX7_readNumber 2 (some .int) d 0 0 g 157 h [(2, l0)] 157 y.2 (some (0, y.1)) := by
  obtain ⟨d, rfl⟩ : ∃ k, d = k + 1 := ⟨d - 1, by omega⟩
  replace hd : 0 ≤ d := Nat.le_of_succ_le_succ hd
  refine z_start (by decide) (Nat.le_of_ble_eq_true rfl) (fun x X hK _ _ _ hl => ?_)
  show ZV g x 2 h 0 [(0, (2, l0))] []
  unfold SR_readNumber at hf
  refine z_aload_n X dX7_readNumber_0 0 rfl ?_
  obtain ⟨g1, hf⟩ := gif hf
  refine y_get X fl_RX7_14 dX7_readNumber_1 g1 ?_
  refine z_aload_n X dX7_readNumber_4 0 rfl ?_
  refine y_get X fl_RX7_38 dX7_readNumber_5 g1 ?_
  obtain ⟨g2, hf⟩ := gif hf
  obtain ⟨r8, hr8, hf⟩ := obE hf
  refine y_V1 X cv_RX7_52 dX7_readNumber_8 g2 (c_By_at d (Nat.zero_le _) (h l0 0) (h l0 3) h r8 hr8) (as := [(0, h l0 3)]) rfl rfl (Nat.le_of_ble_eq_true rfl) z00 ?_
  obtain ⟨r11, hr11, hf⟩ := obE hf
  refine y_S1 X cs_RX7_54 dX7_readNumber_11 (c_SR_isDigit d (Nat.zero_le _) r8 h r11 hr11) (as := [(0, r8)]) rfl rfl (Nat.le_of_ble_eq_true rfl) z00 ?_
  refine z_if_eq X dX7_readNumber_14 rfl (fun hc14 => ?_) (fun hc14 => ?_)
  · rw [if_pos hc14] at hf
    refine z_iconst X dX7_readNumber_21 kc_m1 ?_
    exact (z_SR_readNumber_j22 X hd l0 ((-1)) h _ hf hK)
  · rw [if_neg hc14] at hf
    refine z_iconst X dX7_readNumber_17 kc_0 ?_
    refine z_goto X dX7_readNumber_18 rfl ?_
    exact (z_SR_readNumber_j22 X hd l0 0 h _ hf hK)
set_option maxHeartbeats 4000000 in
set_option maxRecDepth 100000 in
theorem z_SR_readStep_j118 {g : GP} {x : CX} {d : Nat} (X : zX g x RX7 cX7_readStep 2 (d + 1)) (hd : 1 ≤ d) (l0 s0 : Int) (h : Hp) (y : Int × Hp) (hf : SR_readStep_j118 l0 s0 h = some y) (hK : zE g x (some .boolean) 0 0 157 y.2 (some (0, y.1))) : ZV g x 2 h 118 [(0, (2, l0))] [(0, s0)] := by
  unfold SR_readStep_j118 at hf
  refine z_istore_n X dX7_readStep_118 (by decide) (ls' := [(1, (0, s0)), (0, (2, l0))]) rfl ?_
  refine z_aload_n X dX7_readStep_119 1 rfl ?_
  refine z_aload_n X dX7_readStep_120 1 rfl ?_
  obtain ⟨g8, hf⟩ := gif hf
  refine y_get X fl_RX7_14 dX7_readStep_121 g8 ?_
  refine z_aload_n X dX7_readStep_124 1 rfl ?_
  refine y_get X fl_RX7_38 dX7_readStep_125 g8 ?_
  refine z_iconst X dX7_readStep_128 kc_1 ?_
  refine z_iadd X dX7_readStep_129 ?_
  obtain ⟨g9, hf⟩ := gif hf
  obtain ⟨r130, hr130, hf⟩ := obE hf
  refine y_V1 X cv_RX7_34 dX7_readStep_130 g9 (c_By_afterBlanks d (Nat.zero_le _) (h l0 0) (w32 ((h l0 3) + 1)) h r130 hr130) (as := [(0, w32 ((h l0 3) + 1))]) rfl rfl (Nat.le_of_ble_eq_true rfl) z00 ?_
  refine y_put X fl_RX7_38 dX7_readStep_133 g8 rfl (by decide) ?_
  let h_4 : Hp := hput h l0 3 r130
  refine z_aload_n X dX7_readStep_136 1 rfl ?_
  refine z_dup X ne2 dX7_readStep_137 ?_
  refine y_get X fl_RX7_30 dX7_readStep_138 g8 ?_
  refine z_iconst X dX7_readStep_141 kc_1 ?_
  refine z_iadd X dX7_readStep_142 ?_
  refine y_put X fl_RX7_30 dX7_readStep_143 g8 rfl (by decide) ?_
  let h_5 : Hp := hput h_4 l0 4 (w32 ((h_4 l0 4) + 1))
  refine z_iload_n X dX7_readStep_146 0 rfl ?_
  obtain ⟨g10, hf⟩ := gif hf
  cases hf
  exact z_zret X hK g10 dX7_readStep_147
set_option maxHeartbeats 4000000 in
set_option maxRecDepth 100000 in
theorem z_SR_readStep_j117 {g : GP} {x : CX} {d : Nat} (X : zX g x RX7 cX7_readStep 2 (d + 1)) (hd : 1 ≤ d) (l0 : Int) (h : Hp) (y : Int × Hp) (hf : SR_readStep_j117 l0 h = some y) (hK : zE g x (some .boolean) 0 0 157 y.2 (some (0, y.1))) : ZV g x 2 h 117 [(0, (2, l0))] [] := by
  unfold SR_readStep_j117 at hf
  refine z_iconst X dX7_readStep_117 kc_0 ?_
  exact (z_SR_readStep_j118 X hd l0 0 h _ hf hK)
set_option maxHeartbeats 4000000 in
set_option maxRecDepth 100000 in
theorem z_SR_readStep_j60 {g : GP} {x : CX} {d : Nat} (X : zX g x RX7 cX7_readStep 2 (d + 1)) (hd : 1 ≤ d) (l0 s0 s1 s2 : Int) (h : Hp) (y : Int × Hp) (hf : SR_readStep_j60 l0 s0 s1 s2 h = some y) (hK : zE g x (some .boolean) 0 0 157 y.2 (some (0, y.1))) : ZV g x 2 h 60 [(0, (2, l0))] [(0, s0), (0, s1), (2, s2)] := by
  unfold SR_readStep_j60 at hf
  obtain ⟨g5, hf⟩ := gif hf
  refine y_iast X dX7_readStep_60 g5 ?_
  let h_3 : Hp := hput h s2 s1 s0
  refine z_aload_n X dX7_readStep_61 0 rfl ?_
  obtain ⟨g6, hf⟩ := gif hf
  refine y_get X fl_RX7_20 dX7_readStep_62 g6 ?_
  refine z_aload_n X dX7_readStep_65 0 rfl ?_
  refine y_get X fl_RX7_30 dX7_readStep_66 g6 ?_
  obtain ⟨g7, hf⟩ := gif hf
  refine y_iald X dX7_readStep_69 g7 ?_
  refine z_if_lt X dX7_readStep_70 rfl (fun hc70 => ?_) (fun hc70 => ?_)
  · have hf := ift hc70 hf
    exact (z_SR_readStep_j117 X hd l0 h_3 _ hf hK)
  · have hf := iff' hc70 hf
    refine z_aload_n X dX7_readStep_73 0 rfl ?_
    refine y_get X fl_RX7_24 dX7_readStep_74 g6 ?_
    refine z_aload_n X dX7_readStep_77 0 rfl ?_
    refine y_get X fl_RX7_30 dX7_readStep_78 g6 ?_
    obtain ⟨g11, hf⟩ := gif hf
    refine y_iald X dX7_readStep_81 g11 ?_
    refine z_if_lt X dX7_readStep_82 rfl (fun hc82 => ?_) (fun hc82 => ?_)
    · have hf := ift hc82 hf
      exact (z_SR_readStep_j117 X hd l0 h_3 _ hf hK)
    · have hf := iff' hc82 hf
      refine z_aload_n X dX7_readStep_85 0 rfl ?_
      refine y_get X fl_RX7_27 dX7_readStep_86 g6 ?_
      refine z_aload_n X dX7_readStep_89 0 rfl ?_
      refine y_get X fl_RX7_30 dX7_readStep_90 g6 ?_
      obtain ⟨g12, hf⟩ := gif hf
      refine y_iald X dX7_readStep_93 g12 ?_
      refine z_if_lt X dX7_readStep_94 rfl (fun hc94 => ?_) (fun hc94 => ?_)
      · have hf := ift hc94 hf
        exact (z_SR_readStep_j117 X hd l0 h_3 _ hf hK)
      · have hf := iff' hc94 hf
        refine z_aload_n X dX7_readStep_97 0 rfl ?_
        refine y_get X fl_RX7_14 dX7_readStep_98 g6 ?_
        refine z_aload_n X dX7_readStep_101 0 rfl ?_
        refine y_get X fl_RX7_38 dX7_readStep_102 g6 ?_
        obtain ⟨g13, hf⟩ := gif hf
        obtain ⟨r105, hr105, hf⟩ := obE hf
        refine y_V1 X cv_RX7_52 dX7_readStep_105 g13 (c_By_at d (Nat.zero_le _) (h_3 l0 0) (h_3 l0 3) h_3 r105 hr105) (as := [(0, h_3 l0 3)]) rfl rfl (Nat.le_of_ble_eq_true rfl) z00 ?_
        refine z_bipush X dX7_readStep_108 kb_59 kc_59 ?_
        refine z_icmp_ne X dX7_readStep_110 rfl (fun hc110 => ?_) (fun hc110 => ?_)
        · have hf := iff' hc110 hf
          exact (z_SR_readStep_j117 X hd l0 h_3 _ hf hK)
        · have hf := ift hc110 hf
          refine z_iconst X dX7_readStep_113 kc_1 ?_
          refine z_goto X dX7_readStep_114 rfl ?_
          exact (z_SR_readStep_j118 X hd l0 1 h_3 _ hf hK)
set_option maxHeartbeats 4000000 in
set_option maxRecDepth 100000 in
theorem z_SR_readStep_j36 {g : GP} {x : CX} {d : Nat} (X : zX g x RX7 cX7_readStep 2 (d + 1)) (hd : 1 ≤ d) (l0 s0 s1 s2 : Int) (h : Hp) (y : Int × Hp) (hf : SR_readStep_j36 l0 s0 s1 s2 h = some y) (hK : zE g x (some .boolean) 0 0 157 y.2 (some (0, y.1))) : ZV g x 2 h 36 [(0, (2, l0))] [(0, s0), (0, s1), (2, s2)] := by
  unfold SR_readStep_j36 at hf
  obtain ⟨g3, hf⟩ := gif hf
  refine y_iast X dX7_readStep_36 g3 ?_
  let h_2 : Hp := hput h s2 s1 s0
  refine z_aload_n X dX7_readStep_37 0 rfl ?_
  obtain ⟨g4, hf⟩ := gif hf
  refine y_get X fl_RX7_27 dX7_readStep_38 g4 ?_
  refine z_aload_n X dX7_readStep_41 0 rfl ?_
  refine y_get X fl_RX7_30 dX7_readStep_42 g4 ?_
  refine z_aload_n X dX7_readStep_45 0 rfl ?_
  refine y_get X fl_RX7_30 dX7_readStep_46 g4 ?_
  refine z_if_ne X dX7_readStep_49 rfl (fun hc49 => ?_) (fun hc49 => ?_)
  · have hf := iff' hc49 hf
    refine z_aload_n X dX7_readStep_56 0 rfl ?_
    obtain ⟨r57, hr57, hf⟩ := obE hf
    refine y_V1 X cv_RX7_48 dX7_readStep_57 g4 (c_SR_readNumber d (Nat.le_trans (by decide) hd) l0 h_2 r57 hr57) (as := []) rfl rfl (Nat.le_of_ble_eq_true rfl) z00 ?_
    exact (z_SR_readStep_j60 X hd l0 r57.1 (h_2 l0 4) (h_2 l0 7) r57.2 _ hf hK)
  · have hf := ift hc49 hf
    refine z_iconst X dX7_readStep_52 kc_0 ?_
    refine z_goto X dX7_readStep_53 rfl ?_
    exact (z_SR_readStep_j60 X hd l0 0 (h_2 l0 4) (h_2 l0 7) h_2 _ hf hK)
set_option maxHeartbeats 4000000 in
set_option maxRecDepth 100000 in
theorem c_SR_readStep {l : Launch} {g : GP} (d : Nat) (hd : 2 ≤ d) (l0 : Int) (h : Hp) (y : Int × Hp) (hf : SR_readStep l0 h = some y) : zM l yX7_readStep cX7_readStep 2 (some .boolean) d 0 0 g 157 h [(2, l0)] 157 y.2 (some (0, y.1)) := by
  obtain ⟨d, rfl⟩ : ∃ k, d = k + 1 := ⟨d - 1, by omega⟩
  replace hd : 1 ≤ d := Nat.le_of_succ_le_succ hd
  refine z_start (by decide) (Nat.le_of_ble_eq_true rfl) (fun x X hK _ _ _ hl => ?_)
  show ZV g x 2 h 0 [(0, (2, l0))] []
  unfold SR_readStep at hf
  refine z_aload_n X dX7_readStep_0 0 rfl ?_
  obtain ⟨g1, hf⟩ := gif hf
  refine y_get X fl_RX7_20 dX7_readStep_1 g1 ?_
  refine z_aload_n X dX7_readStep_4 0 rfl ?_
  refine y_get X fl_RX7_30 dX7_readStep_5 g1 ?_
  refine z_aload_n X dX7_readStep_8 0 rfl ?_
  obtain ⟨r9, hr9, hf⟩ := obE hf
  refine y_V1 X cv_RX7_48 dX7_readStep_9 g1 (c_SR_readNumber d (Nat.le_trans (by decide) hd) l0 h r9 hr9) (as := []) rfl rfl (Nat.le_of_ble_eq_true rfl) z00 ?_
  obtain ⟨g2, hf⟩ := gif hf
  refine y_iast X dX7_readStep_12 g2 ?_
  let h_1 : Hp := hput r9.2 (h l0 5) (h l0 4) r9.1
  refine z_aload_n X dX7_readStep_13 0 rfl ?_
  refine y_get X fl_RX7_24 dX7_readStep_14 g1 ?_
  refine z_aload_n X dX7_readStep_17 0 rfl ?_
  refine y_get X fl_RX7_30 dX7_readStep_18 g1 ?_
  refine z_aload_n X dX7_readStep_21 0 rfl ?_
  refine y_get X fl_RX7_30 dX7_readStep_22 g1 ?_
  refine z_if_ne X dX7_readStep_25 rfl (fun hc25 => ?_) (fun hc25 => ?_)
  · have hf := iff' hc25 hf
    refine z_aload_n X dX7_readStep_32 0 rfl ?_
    obtain ⟨r33, hr33, hf⟩ := obE hf
    refine y_V1 X cv_RX7_48 dX7_readStep_33 g1 (c_SR_readNumber d (Nat.le_trans (by decide) hd) l0 h_1 r33 hr33) (as := []) rfl rfl (Nat.le_of_ble_eq_true rfl) z00 ?_
    exact (z_SR_readStep_j36 X hd l0 r33.1 (h_1 l0 4) (h_1 l0 6) r33.2 _ hf hK)
  · have hf := ift hc25 hf
    refine z_iconst X dX7_readStep_28 kc_0 ?_
    refine z_goto X dX7_readStep_29 rfl ?_
    exact (z_SR_readStep_j36 X hd l0 0 (h_1 l0 4) (h_1 l0 6) h_1 _ hf hK)
set_option maxHeartbeats 4000000 in
set_option maxRecDepth 100000 in
theorem z_SR_readText_j89 {g : GP} {x : CX} {d : Nat} (X : zX g x RX7 cX7_readText 4 (d + 1)) (hd : 2 ≤ d) (l0 l3 s0 : Int) (h : Hp) (y : (Int × Int × Hp) ⊕ (Int × Hp)) (hf : SR_readText_j89 l0 l3 s0 h = some y) (E : Int × Hp → Prop) (hx0 : ∀ e : Int × Hp, E (e) → ZV g x 4 e.2 96 [(2, (0, e.1))] []) (hk : z_sum (fun q : Int × Int × Hp => ZV g x 4 q.2.2 44 [(0, (2, l0)), (2, (0, q.1)), (3, (0, q.2.1))] []) E y) : ZV g x 4 h 89 [(0, (2, l0)), (3, (0, l3))] [(0, s0)] := by
  unfold SR_readText_j89 at hf
  refine z_istore_n X dX7_readText_89 (by decide) (ls' := [(2, (0, s0)), (0, (2, l0)), (3, (0, l3))]) rfl ?_
  refine z_iinc X dX7_readText_90 2 rfl (by decide) (ls' := [(3, (0, w32 (l3 + 1))), (2, (0, s0)), (0, (2, l0))]) rfl ?_
  refine z_goto X dX7_readText_93 rfl ?_
  cases hf
  exact z_weak [2, 1, 0] rfl hk
set_option maxHeartbeats 4000000 in
set_option maxRecDepth 100000 in
theorem z_SR_readText_j88 {g : GP} {x : CX} {d : Nat} (X : zX g x RX7 cX7_readText 4 (d + 1)) (hd : 2 ≤ d) (l0 l3 : Int) (h : Hp) (y : (Int × Int × Hp) ⊕ (Int × Hp)) (hf : SR_readText_j88 l0 l3 h = some y) (E : Int × Hp → Prop) (hx0 : ∀ e : Int × Hp, E (e) → ZV g x 4 e.2 96 [(2, (0, e.1))] []) (hk : z_sum (fun q : Int × Int × Hp => ZV g x 4 q.2.2 44 [(0, (2, l0)), (2, (0, q.1)), (3, (0, q.2.1))] []) E y) : ZV g x 4 h 88 [(0, (2, l0)), (3, (0, l3))] [] := by
  unfold SR_readText_j88 at hf
  refine z_iconst X dX7_readText_88 kc_0 ?_
  exact (z_SR_readText_j89 X hd l0 l3 0 h _ hf E hx0 hk)
set_option maxHeartbeats 4000000 in
set_option maxRecDepth 100000 in
theorem z_SR_readText_L44 {g : GP} {x : CX} {d : Nat} (X : zX g x RX7 cX7_readText 4 (d + 1)) (hd : 2 ≤ d) (l0 : Int)  (E : Int × Hp → Prop) (hx0 : ∀ e : Int × Hp, E (e) → ZV g x 4 e.2 96 [(2, (0, e.1))] []) (l2 l3 : Int) (h : Hp) (y : (Int × Int × Hp) ⊕ (Int × Hp)) (hf : SR_readText_L44 l0 l2 l3 h = some y) (hk : z_sum (fun q : Int × Int × Hp => ZV g x 4 q.2.2 44 [(0, (2, l0)), (2, (0, q.1)), (3, (0, q.2.1))] []) E y) : ZV g x 4 h 44 [(0, (2, l0)), (2, (0, l2)), (3, (0, l3))] [] := by
  unfold SR_readText_L44 at hf
  refine z_iload_n X dX7_readText_44 2 rfl ?_
  refine z_bipush X dX7_readText_45 kb_40 kc_40 ?_
  refine z_icmp_gt X dX7_readText_47 rfl (fun hc47 => ?_) (fun hc47 => ?_)
  · have hf := ift hc47 hf
    cases hf
    exact z_weak [1] rfl (hx0 _ hk)
  · have hf := iff' hc47 hf
    refine z_iload_n X dX7_readText_50 1 rfl ?_
    refine z_if_eq X dX7_readText_51 rfl (fun hc51 => ?_) (fun hc51 => ?_)
    · have hf := ift hc51 hf
      cases hf
      exact z_weak [1] rfl (hx0 _ hk)
    · have hf := iff' hc51 hf
      refine z_aload_n X dX7_readText_54 0 rfl ?_
      obtain ⟨g4, hf⟩ := gif hf
      refine y_get X fl_RX7_38 dX7_readText_55 g4 ?_
      refine z_aload_n X dX7_readText_58 0 rfl ?_
      refine y_get X fl_RX7_14 dX7_readText_59 g4 ?_
      obtain ⟨g5, hf⟩ := gif hf
      refine y_get X fl_RX7_41 dX7_readText_62 g5 ?_
      refine z_icmp_ge X dX7_readText_65 rfl (fun hc65 => ?_) (fun hc65 => ?_)
      · have hf := ift hc65 hf
        cases hf
        exact z_weak [1] rfl (hx0 _ hk)
      · have hf := iff' hc65 hf
        refine z_aload_n X dX7_readText_68 0 rfl ?_
        refine y_get X fl_RX7_30 dX7_readText_69 g4 ?_
        refine z_bipush X dX7_readText_72 kb_40 kc_40 ?_
        refine z_icmp_ge X dX7_readText_74 rfl (fun hc74 => ?_) (fun hc74 => ?_)
        · have hf := ift hc74 hf
          exact z_weak [0, 2] rfl (z_SR_readText_j88 X hd l0 l3 h _ hf E hx0 hk)
        · have hf := iff' hc74 hf
          refine z_aload_n X dX7_readText_77 0 rfl ?_
          obtain ⟨r78, hr78, hf⟩ := obE hf
          refine y_V1 X cv_RX7_44 dX7_readText_78 g4 (c_SR_readStep d (Nat.le_trans (by decide) hd) l0 h r78 hr78) (as := []) rfl rfl (Nat.le_of_ble_eq_true rfl) z00 ?_
          refine z_if_eq X dX7_readText_81 rfl (fun hc81 => ?_) (fun hc81 => ?_)
          · have hf := ift hc81 hf
            exact z_weak [0, 2] rfl (z_SR_readText_j88 X hd l0 l3 r78.2 _ hf E hx0 hk)
          · have hf := iff' hc81 hf
            refine z_iconst X dX7_readText_84 kc_1 ?_
            refine z_goto X dX7_readText_85 rfl ?_
            exact z_weak [0, 2] rfl (z_SR_readText_j89 X hd l0 l3 1 r78.2 _ hf E hx0 hk)
set_option maxHeartbeats 4000000 in
set_option maxRecDepth 100000 in
theorem z_SR_readText_j41 {g : GP} {x : CX} {d : Nat} (X : zX g x RX7 cX7_readText 4 (d + 1)) (hd : 2 ≤ d) (l0 s0 : Int) (h : Hp) (y : Int × Hp) (hf : SR_readText_j41 l0 s0 h = some y) (hK : zE g x (some .boolean) 0 0 157 y.2 (some (0, y.1))) : ZV g x 4 h 41 [(0, (2, l0))] [(0, s0)] := by
  unfold SR_readText_j41 at hf
  refine z_istore_n X dX7_readText_41 (by decide) (ls' := [(2, (0, s0)), (0, (2, l0))]) rfl ?_
  refine z_iconst X dX7_readText_42 kc_0 ?_
  refine z_istore_n X dX7_readText_43 (by decide) (ls' := [(3, (0, 0)), (2, (0, s0)), (0, (2, l0))]) rfl ?_
  obtain ⟨q44, hq44, hf⟩ := obE hf
  have hx44_0 : ∀ e96 : Int × Hp, (e96 : Int × Hp) = q44 → ZV g x 4 e96.2 96 [(2, (0, e96.1))] [] := by
    intro e96 hq
    subst hq
    refine z_iload_n X dX7_readText_96 0 rfl ?_
    obtain ⟨g6, hf⟩ := gif hf
    cases hf
    exact z_zret X hK g6 dX7_readText_97
  exact z_weak [2, 1, 0] rfl (z_loop (Z := (fun q : Int × Int × Hp => ZV g x 4 q.2.2 44 [(0, (2, l0)), (2, (0, q.1)), (3, (0, q.2.1))] [])) (E := fun q => q = q44) (fun q y hb hk => z_SR_readText_L44 X hd l0 (fun q => q = q44) hx44_0 q.1 q.2.1 q.2.2 y hb hk) LN (s0, 0, h) q44 hq44 rfl)
set_option maxHeartbeats 4000000 in
set_option maxRecDepth 100000 in
theorem c_SR_readText {l : Launch} {g : GP} (d : Nat) (hd : 3 ≤ d) (l0 l1 : Int) (h : Hp) (y : Int × Hp) (hf : SR_readText l0 l1 h = some y) : zM l yX7_readText cX7_readText 4 (some .boolean) d 0 0 g 157 h [(2, l0), (2, l1)] 157 y.2 (some (0, y.1)) := by
  obtain ⟨d, rfl⟩ : ∃ k, d = k + 1 := ⟨d - 1, by omega⟩
  replace hd : 2 ≤ d := Nat.le_of_succ_le_succ hd
  refine z_start (by decide) (Nat.le_of_ble_eq_true rfl) (fun x X hK _ _ _ hl => ?_)
  show ZV g x 4 h 0 [(0, (2, l0)), (1, (2, l1))] []
  unfold SR_readText at hf
  refine z_aload_n X dX7_readText_0 0 rfl ?_
  refine z_aload_n X dX7_readText_1 1 rfl ?_
  obtain ⟨g1, hf⟩ := gif hf
  refine y_put X fl_RX7_14 dX7_readText_2 g1 rfl (by decide) ?_
  let h_1 : Hp := hput h l0 0 l1
  refine z_aload_n X dX7_readText_5 0 rfl ?_
  refine z_iconst X dX7_readText_6 kc_0 ?_
  refine y_put X fl_RX7_30 dX7_readText_7 g1 rfl (by decide) ?_
  let h_2 : Hp := hput h_1 l0 4 0
  refine z_aload_n X dX7_readText_10 0 rfl ?_
  refine z_aload_n X dX7_readText_11 0 rfl ?_
  refine y_get X fl_RX7_14 dX7_readText_12 g1 ?_
  refine z_iconst X dX7_readText_15 kc_0 ?_
  obtain ⟨g2, hf⟩ := gif hf
  obtain ⟨r16, hr16, hf⟩ := obE hf
  refine y_V1 X cv_RX7_34 dX7_readText_16 g2 (c_By_afterBlanks d (Nat.zero_le _) (h_2 l0 0) 0 h_2 r16 hr16) (as := [(0, 0)]) rfl rfl (Nat.le_of_ble_eq_true rfl) z00 ?_
  refine y_put X fl_RX7_38 dX7_readText_19 g1 rfl (by decide) ?_
  let h_3 : Hp := hput h_2 l0 3 r16
  refine z_aload_n X dX7_readText_22 0 rfl ?_
  refine y_get X fl_RX7_38 dX7_readText_23 g1 ?_
  refine z_aload_n X dX7_readText_26 0 rfl ?_
  refine y_get X fl_RX7_14 dX7_readText_27 g1 ?_
  obtain ⟨g3, hf⟩ := gif hf
  refine y_get X fl_RX7_41 dX7_readText_30 g3 ?_
  refine z_icmp_ge X dX7_readText_33 rfl (fun hc33 => ?_) (fun hc33 => ?_)
  · rw [if_pos hc33] at hf
    refine z_iconst X dX7_readText_40 kc_0 ?_
    exact z_weak [0] rfl (z_SR_readText_j41 X hd l0 0 h_3 _ hf hK)
  · rw [if_neg hc33] at hf
    refine z_iconst X dX7_readText_36 kc_1 ?_
    refine z_goto X dX7_readText_37 rfl ?_
    exact z_weak [0] rfl (z_SR_readText_j41 X hd l0 1 h_3 _ hf hK)
set_option maxHeartbeats 4000000 in
set_option maxRecDepth 100000 in
theorem z_SR_fits_j92 {g : GP} {x : CX} {d : Nat} (X : zX g x RX7 cX7_fits 4 d) (h : Hp) (y : Int) (hf : SR_fits_j92 h = some y) (hK : zE g x (some .boolean) 0 0 157 h (some (0, y))) : ZV g x 4 h 92 [] [] := by
  unfold SR_fits_j92 at hf
  refine z_iconst X dX7_fits_92 kc_0 ?_
  cases hf
  exact z_zret X hK (Or.inl rfl) dX7_fits_93
set_option maxHeartbeats 4000000 in
set_option maxRecDepth 100000 in
theorem z_SR_fits_j56 {g : GP} {x : CX} {d : Nat} (X : zX g x RX7 cX7_fits 4 d) (h : Hp) (y : Int) (hf : SR_fits_j56 h = some y) (hK : zE g x (some .boolean) 0 0 157 h (some (0, y))) : ZV g x 4 h 56 [] [] := by
  unfold SR_fits_j56 at hf
  refine z_iconst X dX7_fits_56 kc_0 ?_
  cases hf
  exact z_zret X hK (Or.inl rfl) dX7_fits_57
set_option maxHeartbeats 4000000 in
set_option maxRecDepth 100000 in
theorem c_SR_fits {l : Launch} {g : GP} (d : Nat) (hd : 0 ≤ d) (l0 l1 l2 : Int) (h : Hp) (y : Int) (hf : SR_fits l0 l1 l2 h = some y) : zM l yX7_fits cX7_fits 4 (some .boolean) d 0 0 g 157 h [(2, l0), (0, l1), (0, l2)] 157 h (some (0, y)) := by
  refine z_start (by decide) (Nat.le_of_ble_eq_true rfl) (fun x X hK _ _ _ hl => ?_)
  show ZV g x 4 h 0 [(0, (2, l0)), (1, (0, l1)), (2, (0, l2))] []
  unfold SR_fits at hf
  refine z_aload_n X dX7_fits_0 0 rfl ?_
  obtain ⟨g1, hf⟩ := gif hf
  refine y_get X fl_RX7_65 dX7_fits_1 g1 ?_
  obtain ⟨g2, hf⟩ := gif hf
  refine y_get X fl_RX7_112 dX7_fits_4 g2 ?_
  refine z_iload_n X dX7_fits_7 2 rfl ?_
  obtain ⟨g3, hf⟩ := gif hf
  refine y_iald X dX7_fits_8 g3 ?_
  refine z_istore_n X dX7_fits_9 (by decide) (ls' := [(3, (0, h (h (h l0 1) 9) l2)), (0, (2, l0)), (1, (0, l1)), (2, (0, l2))]) rfl ?_
  refine z_aload_n X dX7_fits_10 1 rfl ?_
  refine y_get X fl_RX7_65 dX7_fits_11 g1 ?_
  refine y_get X fl_RX7_115 dX7_fits_14 g2 ?_
  refine z_iload_n X dX7_fits_17 3 rfl ?_
  obtain ⟨g4, hf⟩ := gif hf
  refine y_iald X dX7_fits_18 g4 ?_
  refine z_if_ne X dX7_fits_19 rfl (fun hc19 => ?_) (fun hc19 => ?_)
  · have hf := iff' hc19 hf
    refine z_aload_n X dX7_fits_58 1 rfl ?_
    refine y_get X fl_RX7_65 dX7_fits_59 g1 ?_
    refine y_get X fl_RX7_115 dX7_fits_62 g2 ?_
    refine z_iload_n X dX7_fits_65 3 rfl ?_
    refine y_iald X dX7_fits_66 g4 ?_
    refine z_iconst X dX7_fits_67 kc_4 ?_
    refine z_icmp_ne X dX7_fits_68 rfl (fun hc68 => ?_) (fun hc68 => ?_)
    · have hf := iff' hc68 hf
      exact z_weak [] rfl (z_SR_fits_j92 X  h _ hf hK)
    · have hf := ift hc68 hf
      refine z_aload_n X dX7_fits_71 1 rfl ?_
      refine y_get X fl_RX7_65 dX7_fits_72 g1 ?_
      refine y_get X fl_RX7_124 dX7_fits_75 g2 ?_
      refine z_iload_n X dX7_fits_78 0 rfl ?_
      obtain ⟨g5, hf⟩ := gif hf
      refine y_iald X dX7_fits_79 g5 ?_
      refine z_iload_n X dX7_fits_80 2 rfl ?_
      refine z_ishr X dX7_fits_81 ?_
      refine z_iconst X dX7_fits_82 kc_1 ?_
      refine z_iand X dX7_fits_83 ?_
      refine z_iconst X dX7_fits_84 kc_1 ?_
      refine z_icmp_ne X dX7_fits_85 rfl (fun hc85 => ?_) (fun hc85 => ?_)
      · have hf := iff' hc85 hf
        exact z_weak [] rfl (z_SR_fits_j92 X  h _ hf hK)
      · have hf := ift hc85 hf
        refine z_iconst X dX7_fits_88 kc_1 ?_
        refine z_goto X dX7_fits_89 rfl ?_
        cases hf
        exact z_zret X hK (Or.inr rfl) dX7_fits_93
  · have hf := ift hc19 hf
    refine z_aload_n X dX7_fits_22 1 rfl ?_
    refine y_get X fl_RX7_65 dX7_fits_23 g1 ?_
    refine y_get X fl_RX7_118 dX7_fits_26 g2 ?_
    refine z_iload_n X dX7_fits_29 3 rfl ?_
    obtain ⟨g6, hf⟩ := gif hf
    refine y_iald X dX7_fits_30 g6 ?_
    refine z_iconst X dX7_fits_31 kc_1 ?_
    refine z_icmp_eq X dX7_fits_32 rfl (fun hc32 => ?_) (fun hc32 => ?_)
    · have hf := ift hc32 hf
      exact z_weak [] rfl (z_SR_fits_j56 X  h _ hf hK)
    · have hf := iff' hc32 hf
      refine z_aload_n X dX7_fits_35 1 rfl ?_
      refine y_get X fl_RX7_65 dX7_fits_36 g1 ?_
      refine y_get X fl_RX7_121 dX7_fits_39 g2 ?_
      refine z_iload_n X dX7_fits_42 0 rfl ?_
      obtain ⟨g7, hf⟩ := gif hf
      refine y_iald X dX7_fits_43 g7 ?_
      refine z_iload_n X dX7_fits_44 2 rfl ?_
      refine z_ishr X dX7_fits_45 ?_
      refine z_iconst X dX7_fits_46 kc_1 ?_
      refine z_iand X dX7_fits_47 ?_
      refine z_iconst X dX7_fits_48 kc_1 ?_
      refine z_icmp_ne X dX7_fits_49 rfl (fun hc49 => ?_) (fun hc49 => ?_)
      · have hf := iff' hc49 hf
        exact z_weak [] rfl (z_SR_fits_j56 X  h _ hf hK)
      · have hf := ift hc49 hf
        refine z_iconst X dX7_fits_52 kc_1 ?_
        refine z_goto X dX7_fits_53 rfl ?_
        cases hf
        exact z_zret X hK (Or.inr rfl) dX7_fits_57
set_option maxHeartbeats 4000000 in
set_option maxRecDepth 100000 in
theorem c_SR_canBeThere {l : Launch} {g : GP} (d : Nat) (hd : 2 ≤ d) (l0 l1 : Int) (h : Hp) (y : Int) (hf : SR_canBeThere l0 l1 h = some y) : zM l yX7_canBeThere cX7_canBeThere 4 (some .boolean) d 0 0 g 157 h [(2, l0), (0, l1)] 157 h (some (0, y)) := by
  obtain ⟨d, rfl⟩ : ∃ k, d = k + 1 := ⟨d - 1, by omega⟩
  replace hd : 1 ≤ d := Nat.le_of_succ_le_succ hd
  refine z_start (by decide) (Nat.le_of_ble_eq_true rfl) (fun x X hK _ _ _ hl => ?_)
  show ZV g x 4 h 0 [(0, (2, l0)), (1, (0, l1))] []
  unfold SR_canBeThere at hf
  refine z_aload_n X dX7_canBeThere_0 0 rfl ?_
  obtain ⟨g1, hf⟩ := gif hf
  refine y_get X fl_RX7_65 dX7_canBeThere_1 g1 ?_
  refine z_aload_n X dX7_canBeThere_4 0 rfl ?_
  refine y_get X fl_RX7_20 dX7_canBeThere_5 g1 ?_
  refine z_iload_n X dX7_canBeThere_8 1 rfl ?_
  obtain ⟨g2, hf⟩ := gif hf
  refine y_iald X dX7_canBeThere_9 g2 ?_
  obtain ⟨g3, hf⟩ := gif hf
  obtain ⟨r10, hr10, hf⟩ := obE hf
  refine y_V1 X cv_RX7_88 dX7_canBeThere_10 g3 (c_Gr_hasTree d (Nat.zero_le _) (h l0 1) (h (h l0 5) l1) h r10 hr10) (as := [(0, h (h l0 5) l1)]) rfl rfl (Nat.le_of_ble_eq_true rfl) z00 ?_
  refine z_if_eq X dX7_canBeThere_13 rfl (fun hc13 => ?_) (fun hc13 => ?_)
  · have hf := ift hc13 hf
    refine z_iconst X dX7_canBeThere_36 kc_0 ?_
    cases hf
    exact z_zret X hK (Or.inl rfl) dX7_canBeThere_37
  · have hf := iff' hc13 hf
    refine z_aload_n X dX7_canBeThere_16 0 rfl ?_
    refine y_get X fl_RX7_65 dX7_canBeThere_17 g1 ?_
    refine y_get X fl_RX7_93 dX7_canBeThere_20 g3 ?_
    refine z_aload_n X dX7_canBeThere_23 0 rfl ?_
    refine y_get X fl_RX7_20 dX7_canBeThere_24 g1 ?_
    refine z_iload_n X dX7_canBeThere_27 1 rfl ?_
    refine y_iald X dX7_canBeThere_28 g2 ?_
    refine z_ishr X dX7_canBeThere_29 ?_
    refine z_iconst X dX7_canBeThere_30 kc_1 ?_
    refine z_iand X dX7_canBeThere_31 ?_
    refine z_iconst X dX7_canBeThere_32 kc_1 ?_
    refine z_icmp_ne X dX7_canBeThere_33 rfl (fun hc33 => ?_) (fun hc33 => ?_)
    · have hf := iff' hc33 hf
      refine z_iload_n X dX7_canBeThere_38 1 rfl ?_
      refine z_if_ne X dX7_canBeThere_39 rfl (fun hc39 => ?_) (fun hc39 => ?_)
      · have hf := iff' hc39 hf
        refine z_aload_n X dX7_canBeThere_68 0 rfl ?_
        refine y_get X fl_RX7_24 dX7_canBeThere_69 g1 ?_
        refine z_iload_n X dX7_canBeThere_72 1 rfl ?_
        obtain ⟨g4, hf⟩ := gif hf
        refine y_iald X dX7_canBeThere_73 g4 ?_
        refine z_istore_n X dX7_canBeThere_74 (by decide) (ls' := [(2, (0, h (h l0 6) l1)), (0, (2, l0)), (1, (0, l1))]) rfl ?_
        refine z_iload_n X dX7_canBeThere_75 0 rfl ?_
        refine z_iload_n X dX7_canBeThere_76 2 rfl ?_
        refine z_icmp_ge X dX7_canBeThere_77 rfl (fun hc77 => ?_) (fun hc77 => ?_)
        · have hf := ift hc77 hf
          refine z_iconst X dX7_canBeThere_102 kc_0 ?_
          cases hf
          exact z_zret X hK (Or.inl rfl) dX7_canBeThere_103
        · have hf := iff' hc77 hf
          refine z_aload_n X dX7_canBeThere_80 1 rfl ?_
          refine y_get X fl_RX7_65 dX7_canBeThere_81 g1 ?_
          refine z_aload_n X dX7_canBeThere_84 1 rfl ?_
          refine y_get X fl_RX7_20 dX7_canBeThere_85 g1 ?_
          refine z_iload_n X dX7_canBeThere_88 0 rfl ?_
          obtain ⟨g5, hf⟩ := gif hf
          refine y_iald X dX7_canBeThere_89 g5 ?_
          refine z_aload_n X dX7_canBeThere_90 1 rfl ?_
          refine y_get X fl_RX7_27 dX7_canBeThere_91 g1 ?_
          refine z_iload_n X dX7_canBeThere_94 2 rfl ?_
          obtain ⟨g6, hf⟩ := gif hf
          refine y_iald X dX7_canBeThere_95 g6 ?_
          obtain ⟨r96, hr96, hf⟩ := obE hf
          refine y_V1 X cv_RX7_99 dX7_canBeThere_96 g3 (c_Gr_hasNode d (Nat.le_trans (by decide) hd) (h l0 1) (h (h l0 5) (h (h l0 6) l1)) (h (h l0 7) l1) h r96 hr96) (as := [(0, h (h l0 5) (h (h l0 6) l1)), (0, h (h l0 7) l1)]) rfl rfl (Nat.le_of_ble_eq_true rfl) z00 ?_
          refine z_if_ne X dX7_canBeThere_99 rfl (fun hc99 => ?_) (fun hc99 => ?_)
          · have hf := iff' hc99 hf
            refine z_aload_n X dX7_canBeThere_104 1 rfl ?_
            refine y_get X fl_RX7_65 dX7_canBeThere_105 g1 ?_
            refine y_get X fl_RX7_103 dX7_canBeThere_108 g3 ?_
            refine z_aload_n X dX7_canBeThere_111 1 rfl ?_
            refine y_get X fl_RX7_20 dX7_canBeThere_112 g1 ?_
            refine z_iload_n X dX7_canBeThere_115 0 rfl ?_
            refine y_iald X dX7_canBeThere_116 g5 ?_
            obtain ⟨g7, hf⟩ := gif hf
            refine y_iald X dX7_canBeThere_117 g7 ?_
            refine z_aload_n X dX7_canBeThere_118 1 rfl ?_
            refine y_get X fl_RX7_27 dX7_canBeThere_119 g1 ?_
            refine z_iload_n X dX7_canBeThere_122 2 rfl ?_
            refine y_iald X dX7_canBeThere_123 g6 ?_
            refine z_iadd X dX7_canBeThere_124 ?_
            refine z_istore_n X dX7_canBeThere_125 (by decide) (ls' := [(3, (0, w32 ((h (h (h l0 1) 6) (h (h l0 5) (h (h l0 6) l1))) + (h (h l0 7) l1)))), (2, (0, h (h l0 6) l1)), (0, (2, l0)), (1, (0, l1))]) rfl ?_
            refine z_aload_n X dX7_canBeThere_126 2 rfl ?_
            refine y_get X fl_RX7_69 dX7_canBeThere_127 g1 ?_
            obtain ⟨g8, hf⟩ := gif hf
            refine y_get X fl_RX7_106 dX7_canBeThere_130 g8 ?_
            refine z_iload_n X dX7_canBeThere_133 1 rfl ?_
            refine z_bipush X dX7_canBeThere_134 kb_12 kc_12 ?_
            refine z_imul X dX7_canBeThere_136 ?_
            refine z_aload_n X dX7_canBeThere_137 2 rfl ?_
            refine y_get X fl_RX7_27 dX7_canBeThere_138 g1 ?_
            refine z_iload_n X dX7_canBeThere_141 3 rfl ?_
            refine y_iald X dX7_canBeThere_142 g6 ?_
            refine z_iadd X dX7_canBeThere_143 ?_
            obtain ⟨g9, hf⟩ := gif hf
            refine y_iald X dX7_canBeThere_144 g9 ?_
            refine z_iconst X dX7_canBeThere_145 kc_m1 ?_
            refine z_icmp_eq X dX7_canBeThere_146 rfl (fun hc146 => ?_) (fun hc146 => ?_)
            · have hf := ift hc146 hf
              refine z_aload_n X dX7_canBeThere_151 2 rfl ?_
              refine z_aload_n X dX7_canBeThere_152 2 rfl ?_
              refine y_get X fl_RX7_20 dX7_canBeThere_153 g1 ?_
              refine z_iload_n X dX7_canBeThere_156 3 rfl ?_
              refine y_iald X dX7_canBeThere_157 g2 ?_
              refine z_iload_n X dX7_canBeThere_158 0 rfl ?_
              obtain ⟨r159, hr159, hf⟩ := obE hf
              refine y_V1 X cv_RX7_109 dX7_canBeThere_159 g1 (c_SR_fits d (Nat.zero_le _) l0 (h (h l0 5) l1) (w32 ((h (h (h l0 1) 6) (h (h l0 5) (h (h l0 6) l1))) + (h (h l0 7) l1))) h r159 hr159) (as := [(0, h (h l0 5) l1), (0, w32 ((h (h (h l0 1) 6) (h (h l0 5) (h (h l0 6) l1))) + (h (h l0 7) l1)))]) rfl rfl (Nat.le_of_ble_eq_true rfl) z00 ?_
              obtain ⟨g10, hf⟩ := gif hf
              cases hf
              exact z_zret X hK g10 dX7_canBeThere_162
            · have hf := iff' hc146 hf
              refine z_iconst X dX7_canBeThere_149 kc_0 ?_
              cases hf
              exact z_zret X hK (Or.inl rfl) dX7_canBeThere_150
          · have hf := ift hc99 hf
            refine z_iconst X dX7_canBeThere_102 kc_0 ?_
            cases hf
            exact z_zret X hK (Or.inl rfl) dX7_canBeThere_103
      · have hf := ift hc39 hf
        refine z_aload_n X dX7_canBeThere_42 0 rfl ?_
        refine y_get X fl_RX7_65 dX7_canBeThere_43 g1 ?_
        obtain ⟨r46, hr46, hf⟩ := obE hf
        refine y_V1 X cv_RX7_96 dX7_canBeThere_46 g3 (c_Gr_hostsAtStart d (Nat.zero_le _) (h l0 1) h r46 hr46) (as := []) rfl rfl (Nat.le_of_ble_eq_true rfl) z00 ?_
        refine z_aload_n X dX7_canBeThere_49 0 rfl ?_
        refine y_get X fl_RX7_20 dX7_canBeThere_50 g1 ?_
        refine z_iload_n X dX7_canBeThere_53 1 rfl ?_
        refine y_iald X dX7_canBeThere_54 g2 ?_
        refine z_ishr X dX7_canBeThere_55 ?_
        refine z_iconst X dX7_canBeThere_56 kc_1 ?_
        refine z_iand X dX7_canBeThere_57 ?_
        refine z_iconst X dX7_canBeThere_58 kc_1 ?_
        refine z_icmp_ne X dX7_canBeThere_59 rfl (fun hc59 => ?_) (fun hc59 => ?_)
        · rw [if_neg hc59] at hf
          refine z_iconst X dX7_canBeThere_66 kc_0 ?_
          cases hf
          exact z_zret X hK (Or.inl rfl) dX7_canBeThere_67
        · rw [if_pos hc59] at hf
          refine z_iconst X dX7_canBeThere_62 kc_1 ?_
          refine z_goto X dX7_canBeThere_63 rfl ?_
          cases hf
          exact z_zret X hK (Or.inr rfl) dX7_canBeThere_67
    · have hf := ift hc33 hf
      refine z_iconst X dX7_canBeThere_36 kc_0 ?_
      cases hf
      exact z_zret X hK (Or.inl rfl) dX7_canBeThere_37
