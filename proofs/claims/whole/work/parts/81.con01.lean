set_option maxHeartbeats 4000000 in
set_option maxRecDepth 100000 in
theorem c_By_room {l : Launch} {g : GP} (d : Nat) (hd : 0 ≤ d) (l0 : Int) (h : Hp) (y : Int) (hf : By_room l0 h = some y) : zM l yX1_room cX1_room 1 (some .int) d 0 0 g 157 h [(2, l0)] 157 h (some (0, y)) := by
  refine z_start (by decide) (Nat.le_of_ble_eq_true rfl) (fun x X hK _ _ _ hl => ?_)
  show ZV g x 1 h 0 [(0, (2, l0))] []
  unfold By_room at hf
  refine z_aload_n X dX1_room_0 0 rfl ?_
  obtain ⟨g1, hf⟩ := gif hf
  refine y_get X fl_RX1_15 dX1_room_1 g1 ?_
  obtain ⟨g2, hf⟩ := gif hf
  refine y_alen X dX1_room_4 (by omega) ?_
  refine z_aload_n X dX1_room_5 0 rfl ?_
  refine y_get X fl_RX1_21 dX1_room_6 g1 ?_
  refine z_isub X dX1_room_9 ?_
  cases hf
  exact z_iret X hK dX1_room_10
set_option maxHeartbeats 4000000 in
set_option maxRecDepth 100000 in
theorem c_By_at {l : Launch} {g : GP} (d : Nat) (hd : 0 ≤ d) (l0 l1 : Int) (h : Hp) (y : Int) (hf : By_at l0 l1 h = some y) : zM l yX1_at cX1_at 2 (some .int) d 0 0 g 157 h [(2, l0), (0, l1)] 157 h (some (0, y)) := by
  refine z_start (by decide) (Nat.le_of_ble_eq_true rfl) (fun x X hK _ _ _ hl => ?_)
  show ZV g x 2 h 0 [(0, (2, l0)), (1, (0, l1))] []
  unfold By_at at hf
  refine z_iload_n X dX1_at_0 1 rfl ?_
  refine z_if_lt X dX1_at_1 rfl (fun hc1 => ?_) (fun hc1 => ?_)
  · have hf := ift hc1 hf
    refine z_iconst X dX1_at_21 kc_m1 ?_
    refine z_goto X dX1_at_22 rfl ?_
    cases hf
    exact z_iret X hK dX1_at_35
  · have hf := iff' hc1 hf
    refine z_iload_n X dX1_at_4 1 rfl ?_
    refine z_aload_n X dX1_at_5 0 rfl ?_
    obtain ⟨g1, hf⟩ := gif hf
    refine y_get X fl_RX1_21 dX1_at_6 g1 ?_
    refine z_icmp_ge X dX1_at_9 rfl (fun hc9 => ?_) (fun hc9 => ?_)
    · have hf := ift hc9 hf
      refine z_iconst X dX1_at_21 kc_m1 ?_
      refine z_goto X dX1_at_22 rfl ?_
      cases hf
      exact z_iret X hK dX1_at_35
    · have hf := iff' hc9 hf
      refine z_iload_n X dX1_at_12 1 rfl ?_
      refine z_aload_n X dX1_at_13 0 rfl ?_
      refine y_get X fl_RX1_15 dX1_at_14 g1 ?_
      obtain ⟨g2, hf⟩ := gif hf
      refine y_alen X dX1_at_17 (by omega) ?_
      refine z_icmp_lt X dX1_at_18 rfl (fun hc18 => ?_) (fun hc18 => ?_)
      · have hf := ift hc18 hf
        refine z_aload_n X dX1_at_25 0 rfl ?_
        refine y_get X fl_RX1_15 dX1_at_26 g1 ?_
        refine z_iload_n X dX1_at_29 1 rfl ?_
        obtain ⟨g3, hf⟩ := gif hf
        refine y_bald X dX1_at_30 g3 ?_
        refine z_sipush X dX1_at_31 ks_255 kc_255 ?_
        refine z_iand X dX1_at_34 ?_
        cases hf
        exact z_iret X hK dX1_at_35
      · have hf := iff' hc18 hf
        refine z_iconst X dX1_at_21 kc_m1 ?_
        refine z_goto X dX1_at_22 rfl ?_
        cases hf
        exact z_iret X hK dX1_at_35
set_option maxHeartbeats 4000000 in
set_option maxRecDepth 100000 in
theorem c_By_add {l : Launch} {g : GP} (d : Nat) (hd : 0 ≤ d) (l0 l1 : Int) (h : Hp) (y : Hp) (hf : By_add l0 l1 h = some y) : zM l yX1_add cX1_add 2 none d 0 0 g 157 h [(2, l0), (0, l1)] 157 y none := by
  refine z_start (by decide) (Nat.le_of_ble_eq_true rfl) (fun x X hK _ _ _ hl => ?_)
  show ZV g x 2 h 0 [(0, (2, l0)), (1, (0, l1))] []
  unfold By_add at hf
  refine z_aload_n X dX1_add_0 0 rfl ?_
  obtain ⟨g1, hf⟩ := gif hf
  refine y_get X fl_RX1_21 dX1_add_1 g1 ?_
  refine z_if_lt X dX1_add_4 rfl (fun hc4 => ?_) (fun hc4 => ?_)
  · have hf := ift hc4 hf
    cases hf
    exact z_vret X hK dX1_add_40
  · have hf := iff' hc4 hf
    refine z_aload_n X dX1_add_7 0 rfl ?_
    refine y_get X fl_RX1_21 dX1_add_8 g1 ?_
    refine z_aload_n X dX1_add_11 0 rfl ?_
    refine y_get X fl_RX1_15 dX1_add_12 g1 ?_
    obtain ⟨g2, hf⟩ := gif hf
    refine y_alen X dX1_add_15 (by omega) ?_
    refine z_icmp_ge X dX1_add_16 rfl (fun hc16 => ?_) (fun hc16 => ?_)
    · have hf := ift hc16 hf
      cases hf
      exact z_vret X hK dX1_add_40
    · have hf := iff' hc16 hf
      refine z_aload_n X dX1_add_19 0 rfl ?_
      refine y_get X fl_RX1_15 dX1_add_20 g1 ?_
      refine z_aload_n X dX1_add_23 0 rfl ?_
      refine y_get X fl_RX1_21 dX1_add_24 g1 ?_
      refine z_iload_n X dX1_add_27 1 rfl ?_
      refine z_i2b X dX1_add_28 ?_
      obtain ⟨g3, hf⟩ := gif hf
      refine y_bast X dX1_add_29 g3 ?_
      let h_1 : Hp := hput h (h l0 0) (h l0 1) (w8 (w8 l1))
      refine z_aload_n X dX1_add_30 0 rfl ?_
      refine z_dup X ne2 dX1_add_31 ?_
      refine y_get X fl_RX1_21 dX1_add_32 g1 ?_
      refine z_iconst X dX1_add_35 kc_1 ?_
      refine z_iadd X dX1_add_36 ?_
      refine y_put X fl_RX1_21 dX1_add_37 g1 rfl (by decide) ?_
      let h_2 : Hp := hput h_1 l0 1 (w32 ((h_1 l0 1) + 1))
      cases hf
      exact z_vret X hK dX1_add_40
set_option maxHeartbeats 4000000 in
set_option maxRecDepth 100000 in
theorem c_By_addFour {l : Launch} {g : GP} (d : Nat) (hd : 1 ≤ d) (l0 l1 : Int) (h : Hp) (y : Hp) (hf : By_addFour l0 l1 h = some y) : zM l yX1_addFour cX1_addFour 2 none d 0 0 g 157 h [(2, l0), (0, l1)] 157 y none := by
  obtain ⟨d, rfl⟩ : ∃ k, d = k + 1 := ⟨d - 1, by omega⟩
  replace hd : 0 ≤ d := Nat.le_of_succ_le_succ hd
  refine z_start (by decide) (Nat.le_of_ble_eq_true rfl) (fun x X hK _ _ _ hl => ?_)
  show ZV g x 2 h 0 [(0, (2, l0)), (1, (0, l1))] []
  unfold By_addFour at hf
  refine z_aload_n X dX1_addFour_0 0 rfl ?_
  refine z_iload_n X dX1_addFour_1 1 rfl ?_
  refine z_bipush X dX1_addFour_2 kb_24 kc_24 ?_
  refine z_ishr X dX1_addFour_4 ?_
  obtain ⟨g1, hf⟩ := gif hf
  obtain ⟨r5, hr5, hf⟩ := obE hf
  refine y_V0 X cv_RX1_25 dX1_addFour_5 g1 (c_By_add d (Nat.zero_le _) l0 (i_shr l1 24) h r5 hr5) (as := [(0, i_shr l1 24)]) rfl rfl (Nat.le_of_ble_eq_true rfl) z00 ?_
  refine z_aload_n X dX1_addFour_8 0 rfl ?_
  refine z_iload_n X dX1_addFour_9 1 rfl ?_
  refine z_bipush X dX1_addFour_10 kb_16 kc_16 ?_
  refine z_ishr X dX1_addFour_12 ?_
  obtain ⟨r13, hr13, hf⟩ := obE hf
  refine y_V0 X cv_RX1_25 dX1_addFour_13 g1 (c_By_add d (Nat.zero_le _) l0 (i_shr l1 16) r5 r13 hr13) (as := [(0, i_shr l1 16)]) rfl rfl (Nat.le_of_ble_eq_true rfl) z00 ?_
  refine z_aload_n X dX1_addFour_16 0 rfl ?_
  refine z_iload_n X dX1_addFour_17 1 rfl ?_
  refine z_bipush X dX1_addFour_18 kb_8 kc_8 ?_
  refine z_ishr X dX1_addFour_20 ?_
  obtain ⟨r21, hr21, hf⟩ := obE hf
  refine y_V0 X cv_RX1_25 dX1_addFour_21 g1 (c_By_add d (Nat.zero_le _) l0 (i_shr l1 8) r13 r21 hr21) (as := [(0, i_shr l1 8)]) rfl rfl (Nat.le_of_ble_eq_true rfl) z00 ?_
  refine z_aload_n X dX1_addFour_24 0 rfl ?_
  refine z_iload_n X dX1_addFour_25 1 rfl ?_
  obtain ⟨r26, hr26, hf⟩ := obE hf
  refine y_V0 X cv_RX1_25 dX1_addFour_26 g1 (c_By_add d (Nat.zero_le _) l0 l1 r21 r26 hr26) (as := [(0, l1)]) rfl rfl (Nat.le_of_ble_eq_true rfl) z00 ?_
  cases hf
  exact z_vret X hK dX1_addFour_29
set_option maxHeartbeats 4000000 in
set_option maxRecDepth 100000 in
theorem z_By_addNumber_j17 {g : GP} {x : CX} {d : Nat} (X : zX g x RX1 cX1_addNumber 2 (d + 1)) (hd : 0 ≤ d) (l0 l1 : Int) (h : Hp) (y : Hp) (hf : By_addNumber_j17 l0 l1 h = some y) (hK : zE g x none 0 0 157 y none) : ZV g x 2 h 17 [(0, (2, l0)), (1, (0, l1))] [] := by
  unfold By_addNumber_j17 at hf
  refine z_aload_n X dX1_addNumber_17 0 rfl ?_
  refine z_bipush X dX1_addNumber_18 kb_48 kc_48 ?_
  refine z_iload_n X dX1_addNumber_20 1 rfl ?_
  refine z_bipush X dX1_addNumber_21 kb_10 kc_10 ?_
  refine z_irem X dX1_addNumber_23 (by decide) ?_
  refine z_iadd X dX1_addNumber_24 ?_
  obtain ⟨g1, hf⟩ := gif hf
  obtain ⟨r25, hr25, hf⟩ := obE hf
  refine y_V0 X cv_RX1_25 dX1_addNumber_25 g1 (c_By_add d (Nat.zero_le _) l0 (w32 (48 + (w32 (Int.tmod l1 10)))) h r25 hr25) (as := [(0, w32 (48 + (w32 (Int.tmod l1 10))))]) rfl rfl (Nat.le_of_ble_eq_true rfl) z00 ?_
  cases hf
  exact z_vret X hK dX1_addNumber_28
set_option maxHeartbeats 4000000 in
set_option maxRecDepth 100000 in
theorem c_By_addNumber {l : Launch} {g : GP} (d : Nat) (hd : 1 ≤ d) (l0 l1 : Int) (h : Hp) (y : Hp) (hf : By_addNumber l0 l1 h = some y) : zM l yX1_addNumber cX1_addNumber 2 none d 0 0 g 157 h [(2, l0), (0, l1)] 157 y none := by
  obtain ⟨d, rfl⟩ : ∃ k, d = k + 1 := ⟨d - 1, by omega⟩
  replace hd : 0 ≤ d := Nat.le_of_succ_le_succ hd
  refine z_start (by decide) (Nat.le_of_ble_eq_true rfl) (fun x X hK _ _ _ hl => ?_)
  show ZV g x 2 h 0 [(0, (2, l0)), (1, (0, l1))] []
  unfold By_addNumber at hf
  refine z_iload_n X dX1_addNumber_0 1 rfl ?_
  refine z_bipush X dX1_addNumber_1 kb_10 kc_10 ?_
  refine z_icmp_lt X dX1_addNumber_3 rfl (fun hc3 => ?_) (fun hc3 => ?_)
  · have hf := ift hc3 hf
    exact (z_By_addNumber_j17 X hd l0 l1 h _ hf hK)
  · have hf := iff' hc3 hf
    refine z_aload_n X dX1_addNumber_6 0 rfl ?_
    refine z_bipush X dX1_addNumber_7 kb_48 kc_48 ?_
    refine z_iload_n X dX1_addNumber_9 1 rfl ?_
    refine z_bipush X dX1_addNumber_10 kb_10 kc_10 ?_
    refine z_idiv X dX1_addNumber_12 (by decide) ?_
    refine z_iadd X dX1_addNumber_13 ?_
    obtain ⟨g2, hf⟩ := gif hf
    obtain ⟨r14, hr14, hf⟩ := obE hf
    refine y_V0 X cv_RX1_25 dX1_addNumber_14 g2 (c_By_add d (Nat.zero_le _) l0 (w32 (48 + (w32 (Int.tdiv l1 10)))) h r14 hr14) (as := [(0, w32 (48 + (w32 (Int.tdiv l1 10))))]) rfl rfl (Nat.le_of_ble_eq_true rfl) z00 ?_
    exact (z_By_addNumber_j17 X hd l0 l1 r14 _ hf hK)
set_option maxHeartbeats 4000000 in
set_option maxRecDepth 100000 in
theorem z_By_takeFrom_L7 {g : GP} {x : CX} {d : Nat} (X : zX g x RX1 cX1_takeFrom 4 (d + 1)) (hd : 0 ≤ d) (l0 l1 l2 : Int)  (E : Hp → Prop) (hx0 : ∀ e : Hp, E (e) → ZV g x 4 e 32 [] []) (l3 : Int) (h : Hp) (y : (Int × Hp) ⊕ (Hp)) (hf : By_takeFrom_L7 l0 l1 l2 l3 h = some y) (hk : z_sum (fun q : Int × Hp => ZV g x 4 q.2 7 [(0, (2, l0)), (1, (2, l1)), (2, (0, l2)), (3, (0, q.1))] []) E y) : ZV g x 4 h 7 [(0, (2, l0)), (1, (2, l1)), (2, (0, l2)), (3, (0, l3))] [] := by
  unfold By_takeFrom_L7 at hf
  refine z_iload_n X dX1_takeFrom_7 3 rfl ?_
  refine z_aload_n X dX1_takeFrom_8 1 rfl ?_
  obtain ⟨g2, hf⟩ := gif hf
  refine y_get X fl_RX1_21 dX1_takeFrom_9 g2 ?_
  refine z_icmp_ge X dX1_takeFrom_12 rfl (fun hc12 => ?_) (fun hc12 => ?_)
  · have hf := ift hc12 hf
    cases hf
    exact z_weak [] rfl (hx0 _ hk)
  · have hf := iff' hc12 hf
    refine z_aload_n X dX1_takeFrom_15 0 rfl ?_
    refine z_aload_n X dX1_takeFrom_16 1 rfl ?_
    refine z_iload_n X dX1_takeFrom_17 3 rfl ?_
    obtain ⟨r18, hr18, hf⟩ := obE hf
    refine y_V1 X cv_RX1_29 dX1_takeFrom_18 g2 (c_By_at d (Nat.zero_le _) l1 l3 h r18 hr18) (as := [(0, l3)]) rfl rfl (Nat.le_of_ble_eq_true rfl) z00 ?_
    refine z_iload_n X dX1_takeFrom_21 2 rfl ?_
    refine z_iadd X dX1_takeFrom_22 ?_
    obtain ⟨g3, hf⟩ := gif hf
    obtain ⟨r23, hr23, hf⟩ := obE hf
    refine y_V0 X cv_RX1_25 dX1_takeFrom_23 g3 (c_By_add d (Nat.zero_le _) l0 (w32 (r18 + l2)) h r23 hr23) (as := [(0, w32 (r18 + l2))]) rfl rfl (Nat.le_of_ble_eq_true rfl) z00 ?_
    refine z_iinc X dX1_takeFrom_26 3 rfl (by decide) (ls' := [(3, (0, w32 (l3 + 1))), (0, (2, l0)), (1, (2, l1)), (2, (0, l2))]) rfl ?_
    refine z_goto X dX1_takeFrom_29 rfl ?_
    cases hf
    exact z_weak [1, 2, 3, 0] rfl hk
set_option maxHeartbeats 4000000 in
set_option maxRecDepth 100000 in
theorem c_By_takeFrom {l : Launch} {g : GP} (d : Nat) (hd : 1 ≤ d) (l0 l1 l2 : Int) (h : Hp) (y : Hp) (hf : By_takeFrom l0 l1 l2 h = some y) : zM l yX1_takeFrom cX1_takeFrom 4 none d 0 0 g 157 h [(2, l0), (2, l1), (0, l2)] 157 y none := by
  obtain ⟨d, rfl⟩ : ∃ k, d = k + 1 := ⟨d - 1, by omega⟩
  replace hd : 0 ≤ d := Nat.le_of_succ_le_succ hd
  refine z_start (by decide) (Nat.le_of_ble_eq_true rfl) (fun x X hK _ _ _ hl => ?_)
  show ZV g x 4 h 0 [(0, (2, l0)), (1, (2, l1)), (2, (0, l2))] []
  unfold By_takeFrom at hf
  refine z_aload_n X dX1_takeFrom_0 0 rfl ?_
  refine z_iconst X dX1_takeFrom_1 kc_0 ?_
  obtain ⟨g1, hf⟩ := gif hf
  refine y_put X fl_RX1_21 dX1_takeFrom_2 g1 rfl (by decide) ?_
  let h_1 : Hp := hput h l0 1 0
  refine z_iconst X dX1_takeFrom_5 kc_0 ?_
  refine z_istore_n X dX1_takeFrom_6 (by decide) (ls' := [(3, (0, 0)), (0, (2, l0)), (1, (2, l1)), (2, (0, l2))]) rfl ?_
  obtain ⟨q7, hq7, hf⟩ := obE hf
  have hx7_0 : ∀ e32 : Hp, (e32 : Hp) = q7 → ZV g x 4 e32 32 [] [] := by
    intro e32 hq
    subst hq
    cases hf
    exact z_vret X hK dX1_takeFrom_32
  exact z_weak [1, 2, 3, 0] rfl (z_loop (Z := (fun q : Int × Hp => ZV g x 4 q.2 7 [(0, (2, l0)), (1, (2, l1)), (2, (0, l2)), (3, (0, q.1))] [])) (E := fun q => q = q7) (fun q y hb hk => z_By_takeFrom_L7 X hd l0 l1 l2 (fun q => q = q7) hx7_0 q.1 q.2 y hb hk) LN (0, h_1) q7 hq7 rfl)
set_option maxHeartbeats 4000000 in
set_option maxRecDepth 100000 in
theorem z_By_isLike_j49 {g : GP} {x : CX} {d : Nat} (X : zX g x RX1 cX1_isLike 4 (d + 1)) (hd : 0 ≤ d) (l0 l1 l3 s0 : Int) (h : Hp) (y : (Int × Int) ⊕ (Int)) (hf : By_isLike_j49 l0 l1 l3 s0 h = some y) (E : Int → Prop) (hx0 : ∀ e : Int, E (e) → ZV g x 4 h 56 [(2, (0, e))] []) (hk : z_sum (fun q : Int × Int => ZV g x 4 h 19 [(0, (2, l0)), (1, (2, l1)), (2, (0, q.1)), (3, (0, q.2))] []) E y) : ZV g x 4 h 49 [(0, (2, l0)), (1, (2, l1)), (3, (0, l3))] [(0, s0)] := by
  unfold By_isLike_j49 at hf
  refine z_istore_n X dX1_isLike_49 (by decide) (ls' := [(2, (0, s0)), (0, (2, l0)), (1, (2, l1)), (3, (0, l3))]) rfl ?_
  refine z_iinc X dX1_isLike_50 3 rfl (by decide) (ls' := [(3, (0, w32 (l3 + 1))), (2, (0, s0)), (0, (2, l0)), (1, (2, l1))]) rfl ?_
  refine z_goto X dX1_isLike_53 rfl ?_
  cases hf
  exact z_weak [2, 3, 1, 0] rfl hk
set_option maxHeartbeats 4000000 in
set_option maxRecDepth 100000 in
theorem z_By_isLike_L19 {g : GP} {x : CX} {d : Nat} (X : zX g x RX1 cX1_isLike 4 (d + 1)) (hd : 0 ≤ d) (l0 l1 : Int) (h : Hp) (E : Int → Prop) (hx0 : ∀ e : Int, E (e) → ZV g x 4 h 56 [(2, (0, e))] []) (l2 l3 : Int) (y : (Int × Int) ⊕ (Int)) (hf : By_isLike_L19 l0 l1 h l2 l3 = some y) (hk : z_sum (fun q : Int × Int => ZV g x 4 h 19 [(0, (2, l0)), (1, (2, l1)), (2, (0, q.1)), (3, (0, q.2))] []) E y) : ZV g x 4 h 19 [(0, (2, l0)), (1, (2, l1)), (2, (0, l2)), (3, (0, l3))] [] := by
  unfold By_isLike_L19 at hf
  refine z_iload_n X dX1_isLike_19 3 rfl ?_
  refine z_aload_n X dX1_isLike_20 0 rfl ?_
  obtain ⟨g3, hf⟩ := gif hf
  refine y_get X fl_RX1_21 dX1_isLike_21 g3 ?_
  refine z_icmp_ge X dX1_isLike_24 rfl (fun hc24 => ?_) (fun hc24 => ?_)
  · have hf := ift hc24 hf
    cases hf
    exact z_weak [2] rfl (hx0 _ hk)
  · have hf := iff' hc24 hf
    refine z_iload_n X dX1_isLike_27 2 rfl ?_
    refine z_if_eq X dX1_isLike_28 rfl (fun hc28 => ?_) (fun hc28 => ?_)
    · have hf := ift hc28 hf
      cases hf
      exact z_weak [2] rfl (hx0 _ hk)
    · have hf := iff' hc28 hf
      refine z_aload_n X dX1_isLike_31 0 rfl ?_
      refine z_iload_n X dX1_isLike_32 3 rfl ?_
      obtain ⟨r33, hr33, hf⟩ := obE hf
      refine y_V1 X cv_RX1_29 dX1_isLike_33 g3 (c_By_at d (Nat.zero_le _) l0 l3 h r33 hr33) (as := [(0, l3)]) rfl rfl (Nat.le_of_ble_eq_true rfl) z00 ?_
      refine z_aload_n X dX1_isLike_36 1 rfl ?_
      refine z_iload_n X dX1_isLike_37 3 rfl ?_
      obtain ⟨g4, hf⟩ := gif hf
      obtain ⟨r38, hr38, hf⟩ := obE hf
      refine y_V1 X cv_RX1_29 dX1_isLike_38 g4 (c_By_at d (Nat.zero_le _) l1 l3 h r38 hr38) (as := [(0, l3)]) rfl rfl (Nat.le_of_ble_eq_true rfl) z00 ?_
      refine z_icmp_ne X dX1_isLike_41 rfl (fun hc41 => ?_) (fun hc41 => ?_)
      · rw [if_neg hc41] at hf
        refine z_iconst X dX1_isLike_48 kc_0 ?_
        exact z_weak [0, 1, 3] rfl (z_By_isLike_j49 X hd l0 l1 l3 0 h _ hf E hx0 hk)
      · rw [if_pos hc41] at hf
        refine z_iconst X dX1_isLike_44 kc_1 ?_
        refine z_goto X dX1_isLike_45 rfl ?_
        exact z_weak [0, 1, 3] rfl (z_By_isLike_j49 X hd l0 l1 l3 1 h _ hf E hx0 hk)
set_option maxHeartbeats 4000000 in
set_option maxRecDepth 100000 in
theorem z_By_isLike_j16 {g : GP} {x : CX} {d : Nat} (X : zX g x RX1 cX1_isLike 4 (d + 1)) (hd : 0 ≤ d) (l0 l1 s0 : Int) (h : Hp) (y : Int) (hf : By_isLike_j16 l0 l1 s0 h = some y) (hK : zE g x (some .boolean) 0 0 157 h (some (0, y))) : ZV g x 4 h 16 [(0, (2, l0)), (1, (2, l1))] [(0, s0)] := by
  unfold By_isLike_j16 at hf
  refine z_istore_n X dX1_isLike_16 (by decide) (ls' := [(2, (0, s0)), (0, (2, l0)), (1, (2, l1))]) rfl ?_
  refine z_iconst X dX1_isLike_17 kc_0 ?_
  refine z_istore_n X dX1_isLike_18 (by decide) (ls' := [(3, (0, 0)), (2, (0, s0)), (0, (2, l0)), (1, (2, l1))]) rfl ?_
  obtain ⟨q19, hq19, hf⟩ := obE hf
  have hx19_0 : ∀ e56 : Int, (e56 : Int) = q19 → ZV g x 4 h 56 [(2, (0, e56))] [] := by
    intro e56 hq
    subst hq
    refine z_iload_n X dX1_isLike_56 0 rfl ?_
    obtain ⟨g5, hf⟩ := gif hf
    cases hf
    exact z_zret X hK g5 dX1_isLike_57
  exact z_weak [2, 3, 1, 0] rfl (z_loop (Z := (fun q : Int × Int => ZV g x 4 h 19 [(0, (2, l0)), (1, (2, l1)), (2, (0, q.1)), (3, (0, q.2))] [])) (E := fun q => q = q19) (fun q y hb hk => z_By_isLike_L19 X hd l0 l1 h (fun q => q = q19) hx19_0 q.1 q.2 y hb hk) LN (s0, 0) q19 hq19 rfl)
set_option maxHeartbeats 4000000 in
set_option maxRecDepth 100000 in
theorem c_By_isLike {l : Launch} {g : GP} (d : Nat) (hd : 1 ≤ d) (l0 l1 : Int) (h : Hp) (y : Int) (hf : By_isLike l0 l1 h = some y) : zM l yX1_isLike cX1_isLike 4 (some .boolean) d 0 0 g 157 h [(2, l0), (2, l1)] 157 h (some (0, y)) := by
  obtain ⟨d, rfl⟩ : ∃ k, d = k + 1 := ⟨d - 1, by omega⟩
  replace hd : 0 ≤ d := Nat.le_of_succ_le_succ hd
  refine z_start (by decide) (Nat.le_of_ble_eq_true rfl) (fun x X hK _ _ _ hl => ?_)
  show ZV g x 4 h 0 [(0, (2, l0)), (1, (2, l1))] []
  unfold By_isLike at hf
  refine z_aload_n X dX1_isLike_0 0 rfl ?_
  obtain ⟨g1, hf⟩ := gif hf
  refine y_get X fl_RX1_21 dX1_isLike_1 g1 ?_
  refine z_aload_n X dX1_isLike_4 1 rfl ?_
  obtain ⟨g2, hf⟩ := gif hf
  refine y_get X fl_RX1_21 dX1_isLike_5 g2 ?_
  refine z_icmp_ne X dX1_isLike_8 rfl (fun hc8 => ?_) (fun hc8 => ?_)
  · rw [if_neg hc8] at hf
    refine z_iconst X dX1_isLike_15 kc_0 ?_
    exact (z_By_isLike_j16 X hd l0 l1 0 h _ hf hK)
  · rw [if_pos hc8] at hf
    refine z_iconst X dX1_isLike_11 kc_1 ?_
    refine z_goto X dX1_isLike_12 rfl ?_
    exact (z_By_isLike_j16 X hd l0 l1 1 h _ hf hK)
set_option maxHeartbeats 4000000 in
set_option maxRecDepth 100000 in
theorem z_By_afterBlanks_j36 {g : GP} {x : CX} {d : Nat} (X : zX g x RX1 cX1_afterBlanks 3 d) (l0 l2 : Int) (h : Hp) (y : (Int) ⊕ (Int)) (hf : By_afterBlanks_j36 l0 l2 h = some y) (E : Int → Prop) (hx0 : ∀ e : Int, E (e) → ZV g x 3 h 42 [(2, (0, e))] []) (hk : z_sum (fun q : Int => ZV g x 3 h 2 [(0, (2, l0)), (2, (0, q))] []) E y) : ZV g x 3 h 36 [(0, (2, l0)), (2, (0, l2))] [] := by
  unfold By_afterBlanks_j36 at hf
  refine z_iinc X dX1_afterBlanks_36 1 rfl (by decide) (ls' := [(2, (0, w32 (l2 + 1))), (0, (2, l0))]) rfl ?_
  refine z_goto X dX1_afterBlanks_39 rfl ?_
  cases hf
  exact z_weak [1, 0] rfl hk
set_option maxHeartbeats 4000000 in
set_option maxRecDepth 100000 in
theorem z_By_afterBlanks_L2 {g : GP} {x : CX} {d : Nat} (X : zX g x RX1 cX1_afterBlanks 3 d) (l0 : Int) (h : Hp) (E : Int → Prop) (hx0 : ∀ e : Int, E (e) → ZV g x 3 h 42 [(2, (0, e))] []) (l2 : Int) (y : (Int) ⊕ (Int)) (hf : By_afterBlanks_L2 l0 h l2 = some y) (hk : z_sum (fun q : Int => ZV g x 3 h 2 [(0, (2, l0)), (2, (0, q))] []) E y) : ZV g x 3 h 2 [(0, (2, l0)), (2, (0, l2))] [] := by
  unfold By_afterBlanks_L2 at hf
  refine z_iload_n X dX1_afterBlanks_2 1 rfl ?_
  refine z_if_lt X dX1_afterBlanks_3 rfl (fun hc3 => ?_) (fun hc3 => ?_)
  · have hf := ift hc3 hf
    cases hf
    exact z_weak [1] rfl (hx0 _ hk)
  · have hf := iff' hc3 hf
    refine z_iload_n X dX1_afterBlanks_6 1 rfl ?_
    refine z_aload_n X dX1_afterBlanks_7 0 rfl ?_
    obtain ⟨g1, hf⟩ := gif hf
    refine y_get X fl_RX1_21 dX1_afterBlanks_8 g1 ?_
    refine z_icmp_ge X dX1_afterBlanks_11 rfl (fun hc11 => ?_) (fun hc11 => ?_)
    · have hf := ift hc11 hf
      cases hf
      exact z_weak [1] rfl (hx0 _ hk)
    · have hf := iff' hc11 hf
      refine z_aload_n X dX1_afterBlanks_14 0 rfl ?_
      refine y_get X fl_RX1_15 dX1_afterBlanks_15 g1 ?_
      refine z_iload_n X dX1_afterBlanks_18 1 rfl ?_
      obtain ⟨g2, hf⟩ := gif hf
      refine y_bald X dX1_afterBlanks_19 g2 ?_
      refine z_bipush X dX1_afterBlanks_20 kb_32 kc_32 ?_
      refine z_icmp_eq X dX1_afterBlanks_22 rfl (fun hc22 => ?_) (fun hc22 => ?_)
      · have hf := ift hc22 hf
        exact (z_By_afterBlanks_j36 X l0 l2 h _ hf E hx0 hk)
      · have hf := iff' hc22 hf
        refine z_aload_n X dX1_afterBlanks_25 0 rfl ?_
        refine y_get X fl_RX1_15 dX1_afterBlanks_26 g1 ?_
        refine z_iload_n X dX1_afterBlanks_29 1 rfl ?_
        refine y_bald X dX1_afterBlanks_30 g2 ?_
        refine z_bipush X dX1_afterBlanks_31 kb_10 kc_10 ?_
        refine z_icmp_ne X dX1_afterBlanks_33 rfl (fun hc33 => ?_) (fun hc33 => ?_)
        · have hf := iff' hc33 hf
          cases hf
          exact z_weak [1] rfl (hx0 _ hk)
        · have hf := ift hc33 hf
          exact (z_By_afterBlanks_j36 X l0 l2 h _ hf E hx0 hk)
set_option maxHeartbeats 4000000 in
set_option maxRecDepth 100000 in
theorem c_By_afterBlanks {l : Launch} {g : GP} (d : Nat) (hd : 0 ≤ d) (l0 l1 : Int) (h : Hp) (y : Int) (hf : By_afterBlanks l0 l1 h = some y) : zM l yX1_afterBlanks cX1_afterBlanks 3 (some .int) d 0 0 g 157 h [(2, l0), (0, l1)] 157 h (some (0, y)) := by
  refine z_start (by decide) (Nat.le_of_ble_eq_true rfl) (fun x X hK _ _ _ hl => ?_)
  show ZV g x 3 h 0 [(0, (2, l0)), (1, (0, l1))] []
  unfold By_afterBlanks at hf
  refine z_iload_n X dX1_afterBlanks_0 1 rfl ?_
  refine z_istore_n X dX1_afterBlanks_1 (by decide) (ls' := [(2, (0, l1)), (0, (2, l0)), (1, (0, l1))]) rfl ?_
  obtain ⟨q2, hq2, hf⟩ := obE hf
  have hx2_0 : ∀ e42 : Int, (e42 : Int) = q2 → ZV g x 3 h 42 [(2, (0, e42))] [] := by
    intro e42 hq
    subst hq
    refine z_iload_n X dX1_afterBlanks_42 0 rfl ?_
    cases hf
    exact z_iret X hK dX1_afterBlanks_43
  exact z_weak [1, 0] rfl (z_loop (Z := (fun q : Int => ZV g x 3 h 2 [(0, (2, l0)), (2, (0, q))] [])) (E := fun q => q = q2) (fun q y hb hk => z_By_afterBlanks_L2 X l0 h (fun q => q = q2) hx2_0 q y hb hk) LN l1 q2 hq2 rfl)
set_option maxHeartbeats 4000000 in
set_option maxRecDepth 100000 in
theorem c_Ch_cell {l : Launch} {g : GP} (d : Nat) (hd : 0 ≤ d) (l0 l1 l2 l3 : Int) (h : Hp) (y : Int) (hf : Ch_cell l0 l1 l2 l3 = some y) : zM l yX2_cell cX2_cell 4 (some .int) d 0 0 g 157 h [(0, l0), (0, l1), (0, l2), (0, l3)] 157 h (some (0, y)) := by
  refine z_start (by decide) (Nat.le_of_ble_eq_true rfl) (fun x X hK _ _ _ hl => ?_)
  show ZV g x 4 h 0 [(0, (0, l0)), (1, (0, l1)), (2, (0, l2)), (3, (0, l3))] []
  unfold Ch_cell at hf
  refine z_getJ X kt_RX2_45 dX2_cell_0 ?_
  refine z_iload_n X dX2_cell_3 1 rfl ?_
  obtain ⟨g1, hf⟩ := gif hf
  refine z_taldJ X dX2_cell_4 g1.1 g1.2 ?_
  refine z_getQ X kt_RX2_48 dX2_cell_5 ?_
  refine z_iload_n X dX2_cell_8 3 rfl ?_
  obtain ⟨g2, hf⟩ := gif hf
  refine z_taldQ X dX2_cell_9 g2.1 g2.2 ?_
  refine z_iadd X dX2_cell_10 ?_
  refine z_getP X kt_RX2_51 dX2_cell_11 ?_
  refine z_iload_n X dX2_cell_14 2 rfl ?_
  obtain ⟨g3, hf⟩ := gif hf
  refine z_taldP X dX2_cell_15 g3.1 g3.2 ?_
  refine z_iadd X dX2_cell_16 ?_
  refine z_iload_n X dX2_cell_17 0 rfl ?_
  refine z_iadd X dX2_cell_18 ?_
  cases hf
  exact z_iret X hK dX2_cell_19
set_option maxHeartbeats 4000000 in
set_option maxRecDepth 100000 in
theorem z_Ch_row_j20 {g : GP} {x : CX} {d : Nat} (X : zX g x RX2 cX2_row 3 d) (s0 s1 : Int) (h : Hp) (y : Int) (hf : Ch_row_j20 s0 s1 h = some y) (hK : zE g x (some .int) 0 0 157 h (some (0, y))) : ZV g x 3 h 20 [] [(0, s0), (0, s1)] := by
  unfold Ch_row_j20 at hf
  refine z_iadd X dX2_row_20 ?_
  refine z_sipush X dX2_row_21 ks_495 kc_495 ?_
  refine z_imul X dX2_row_24 ?_
  cases hf
  exact z_iret X hK dX2_row_25
set_option maxHeartbeats 4000000 in
set_option maxRecDepth 100000 in
theorem c_Ch_row {l : Launch} {g : GP} (d : Nat) (hd : 0 ≤ d) (l0 l1 l2 : Int) (h : Hp) (y : Int) (hf : Ch_row l0 l1 l2 h = some y) : zM l yX2_row cX2_row 3 (some .int) d 0 0 g 157 h [(2, l0), (0, l1), (0, l2)] 157 h (some (0, y)) := by
  refine z_start (by decide) (Nat.le_of_ble_eq_true rfl) (fun x X hK _ _ _ hl => ?_)
  show ZV g x 3 h 0 [(0, (2, l0)), (1, (0, l1)), (2, (0, l2))] []
  unfold Ch_row at hf
  refine z_iconst X dX2_row_0 kc_2 ?_
  refine z_iload_n X dX2_row_1 1 rfl ?_
  refine z_imul X dX2_row_2 ?_
  refine z_aload_n X dX2_row_3 0 rfl ?_
  obtain ⟨g1, hf⟩ := gif hf
  refine y_get X fl_RX2_12 dX2_row_4 g1 ?_
  obtain ⟨g2, hf⟩ := gif hf
  refine y_get X fl_RX2_41 dX2_row_7 g2 ?_
  refine z_iload_n X dX2_row_10 1 rfl ?_
  obtain ⟨g3, hf⟩ := gif hf
  refine y_iald X dX2_row_11 g3 ?_
  refine z_if_ne X dX2_row_12 rfl (fun hc12 => ?_) (fun hc12 => ?_)
  · rw [if_neg hc12] at hf
    refine z_iconst X dX2_row_19 kc_1 ?_
    exact z_weak [] rfl (z_Ch_row_j20 X 1 (w32 (2 * l1)) h _ hf hK)
  · rw [if_pos hc12] at hf
    refine z_iload_n X dX2_row_15 2 rfl ?_
    refine z_goto X dX2_row_16 rfl ?_
    exact z_weak [] rfl (z_Ch_row_j20 X l2 (w32 (2 * l1)) h _ hf hK)
set_option maxHeartbeats 4000000 in
set_option maxRecDepth 100000 in
theorem c_Ch_value {l : Launch} {g : GP} (d : Nat) (hd : 1 ≤ d) (l0 l1 l2 l3 l4 l5 l6 : Int) (h : Hp) (y : Int) (hf : Ch_value l0 l1 l2 l3 l4 l5 l6 h = some y) : zM l yX2_value cX2_value 7 (some .long) d 0 0 g 157 h [(2, l0), (0, l1), (0, l2), (0, l3), (0, l4), (0, l5), (0, l6)] 157 h (some (1, y)) := by
  obtain ⟨d, rfl⟩ : ∃ k, d = k + 1 := ⟨d - 1, by omega⟩
  replace hd : 0 ≤ d := Nat.le_of_succ_le_succ hd
  refine z_start (by decide) (Nat.le_of_ble_eq_true rfl) (fun x X hK _ _ _ hl => ?_)
  show ZV g x 7 h 0 [(0, (2, l0)), (1, (0, l1)), (2, (0, l2)), (3, (0, l3)), (4, (0, l4)), (5, (0, l5)), (6, (0, l6))] []
  unfold Ch_value at hf
  refine z_iload_n X dX2_value_0 1 rfl ?_
  refine z_if_lt X dX2_value_1 rfl (fun hc1 => ?_) (fun hc1 => ?_)
  · have hf := ift hc1 hf
    refine z_lconst0 X dX2_value_48 ?_
    cases hf
    exact z_lret X hK dX2_value_49
  · have hf := iff' hc1 hf
    refine z_iload_n X dX2_value_4 1 rfl ?_
    refine z_aload_n X dX2_value_5 0 rfl ?_
    obtain ⟨g1, hf⟩ := gif hf
    refine y_get X fl_RX2_12 dX2_value_6 g1 ?_
    obtain ⟨g2, hf⟩ := gif hf
    refine y_get X fl_RX2_26 dX2_value_9 g2 ?_
    refine z_icmp_ge X dX2_value_12 rfl (fun hc12 => ?_) (fun hc12 => ?_)
    · have hf := ift hc12 hf
      refine z_lconst0 X dX2_value_48 ?_
      cases hf
      exact z_lret X hK dX2_value_49
    · have hf := iff' hc12 hf
      refine z_iload_n X dX2_value_15 3 rfl ?_
      refine z_if_lt X dX2_value_16 rfl (fun hc16 => ?_) (fun hc16 => ?_)
      · have hf := ift hc16 hf
        refine z_lconst0 X dX2_value_48 ?_
        cases hf
        exact z_lret X hK dX2_value_49
      · have hf := iff' hc16 hf
        refine z_iload_n X dX2_value_19 3 rfl ?_
        refine z_iload X dX2_value_20 5 rfl ?_
        refine z_icmp_gt X dX2_value_22 rfl (fun hc22 => ?_) (fun hc22 => ?_)
        · have hf := ift hc22 hf
          refine z_lconst0 X dX2_value_48 ?_
          cases hf
          exact z_lret X hK dX2_value_49
        · have hf := iff' hc22 hf
          refine z_iload X dX2_value_25 5 rfl ?_
          refine z_iload X dX2_value_27 6 rfl ?_
          refine z_icmp_gt X dX2_value_29 rfl (fun hc29 => ?_) (fun hc29 => ?_)
          · have hf := ift hc29 hf
            refine z_lconst0 X dX2_value_48 ?_
            cases hf
            exact z_lret X hK dX2_value_49
          · have hf := iff' hc29 hf
            refine z_iload X dX2_value_32 6 rfl ?_
            refine z_iload X dX2_value_34 4 rfl ?_
            refine z_icmp_gt X dX2_value_36 rfl (fun hc36 => ?_) (fun hc36 => ?_)
            · have hf := ift hc36 hf
              refine z_lconst0 X dX2_value_48 ?_
              cases hf
              exact z_lret X hK dX2_value_49
            · have hf := iff' hc36 hf
              refine z_iload X dX2_value_39 4 rfl ?_
              refine z_aload_n X dX2_value_41 0 rfl ?_
              refine y_get X fl_RX2_30 dX2_value_42 g1 ?_
              refine z_icmp_le X dX2_value_45 rfl (fun hc45 => ?_) (fun hc45 => ?_)
              · have hf := ift hc45 hf
                refine z_aload_n X dX2_value_50 0 rfl ?_
                refine y_get X fl_RX2_19 dX2_value_51 g1 ?_
                refine z_aload_n X dX2_value_54 0 rfl ?_
                refine z_iload_n X dX2_value_55 1 rfl ?_
                refine z_iload_n X dX2_value_56 2 rfl ?_
                obtain ⟨r57, hr57, hf⟩ := obE hf
                refine y_V1 X cv_RX2_33 dX2_value_57 g1 (c_Ch_row d (Nat.zero_le _) l0 l1 l2 h r57 hr57) (as := [(0, l1), (0, l2)]) rfl rfl (Nat.le_of_ble_eq_true rfl) z00 ?_
                refine z_iload_n X dX2_value_60 3 rfl ?_
                refine z_iload X dX2_value_61 4 rfl ?_
                refine z_iload X dX2_value_63 5 rfl ?_
                refine z_iload X dX2_value_65 6 rfl ?_
                obtain ⟨r67, hr67, hf⟩ := obE hf
                refine y_S1 X cs_RX2_37 dX2_value_67 (c_Ch_cell d (Nat.zero_le _) l3 l4 l5 l6 h r67 hr67) (as := [(0, l3), (0, l4), (0, l5), (0, l6)]) rfl rfl (Nat.le_of_ble_eq_true rfl) z00 ?_
                refine z_iadd X dX2_value_70 ?_
                obtain ⟨g3, hf⟩ := gif hf
                refine y_lald X dX2_value_71 g3 ?_
                cases hf
                exact z_lret X hK dX2_value_72
              · have hf := iff' hc45 hf
                refine z_lconst0 X dX2_value_48 ?_
                cases hf
                exact z_lret X hK dX2_value_49
set_option maxHeartbeats 4000000 in
set_option maxRecDepth 100000 in
theorem c_JA_rangeCheck {l : Launch} {g : GP} (d : Nat) (hd : 0 ≤ d) (l0 l1 l2 : Int) (h : Hp) (y : Unit) (hf : JA_rangeCheck l0 l1 l2 = some y) : zM l yJ7_rangeCheck_23922 cJ7_rangeCheck_23922 3 none d 0 0 g 157 h [(0, l0), (0, l1), (0, l2)] 157 h none := by
  refine z_start (by decide) (Nat.le_of_ble_eq_true rfl) (fun x X hK _ _ _ hl => ?_)
  show ZV g x 3 h 0 [(0, (0, l0)), (1, (0, l1)), (2, (0, l2))] []
  unfold JA_rangeCheck at hf
  refine z_iload_n X dJ7_rangeCheck_23922_0 1 rfl ?_
  refine z_iload_n X dJ7_rangeCheck_23922_1 2 rfl ?_
  refine z_icmp_le X dJ7_rangeCheck_23922_2 rfl (fun hc2 => ?_) (fun hc2 => ?_)
  · have hf := ift hc2 hf
    refine z_iload_n X dJ7_rangeCheck_23922_46 1 rfl ?_
    refine z_if_ge X dJ7_rangeCheck_23922_47 rfl (fun hc47 => ?_) (fun hc47 => ?_)
    · have hf := ift hc47 hf
      refine z_iload_n X dJ7_rangeCheck_23922_59 2 rfl ?_
      refine z_iload_n X dJ7_rangeCheck_23922_60 0 rfl ?_
      refine z_icmp_le X dJ7_rangeCheck_23922_61 rfl (fun hc61 => ?_) (fun hc61 => ?_)
      · have hf := ift hc61 hf
        cases hf
        exact z_vret X hK dJ7_rangeCheck_23922_73
      · have hf := iff' hc61 hf
        cases hf
    · have hf := iff' hc47 hf
      cases hf
  · have hf := iff' hc2 hf
    cases hf
set_option maxHeartbeats 4000000 in
set_option maxRecDepth 100000 in
theorem z_JA_fillJR_L10 {g : GP} {x : CX} {d : Nat} (X : zX g x RJ7 cJ7_fill_bad5a 6 (d + 1)) (hd : 0 ≤ d) (l0 l2 l3 : Int)  (E : Hp → Prop) (hx0 : ∀ e : Hp, E (e) → ZV g x 6 e 27 [] []) (l5 : Int) (h : Hp) (y : (Int × Hp) ⊕ (Hp)) (hf : JA_fillJR_L10 l0 l2 l3 l5 h = some y) (hk : z_sum (fun q : Int × Hp => ZV g x 6 q.2 10 [(0, (2, l0)), (2, (0, l2)), (3, (1, l3)), (5, (0, q.1))] []) E y) : ZV g x 6 h 10 [(0, (2, l0)), (2, (0, l2)), (3, (1, l3)), (5, (0, l5))] [] := by
  unfold JA_fillJR_L10 at hf
  refine z_iload X dJ7_fill_bad5a_10 3 rfl ?_
  refine z_iload_n X dJ7_fill_bad5a_12 1 rfl ?_
  refine z_icmp_ge X dJ7_fill_bad5a_13 rfl (fun hc13 => ?_) (fun hc13 => ?_)
  · have hf := ift hc13 hf
    cases hf
    exact z_weak [] rfl (hx0 _ hk)
  · have hf := iff' hc13 hf
    refine z_aload_n X dJ7_fill_bad5a_16 0 rfl ?_
    refine z_iload X dJ7_fill_bad5a_17 3 rfl ?_
    refine z_lload_n X dJ7_fill_bad5a_19 2 rfl ?_
    obtain ⟨g2, hf⟩ := gif hf
    refine y_last X dJ7_fill_bad5a_20 g2 ?_
    let h_1 : Hp := hput h l0 l5 l3
    refine z_iinc X dJ7_fill_bad5a_21 3 rfl (by decide) (ls' := [(5, (0, w32 (l5 + 1))), (0, (2, l0)), (2, (0, l2)), (3, (1, l3))]) rfl ?_
    refine z_goto X dJ7_fill_bad5a_24 rfl ?_
    cases hf
    exact z_weak [1, 2, 3, 0] rfl hk
set_option maxHeartbeats 4000000 in
set_option maxRecDepth 100000 in
theorem c_JA_fillJR {l : Launch} {g : GP} (d : Nat) (hd : 1 ≤ d) (l0 l1 l2 l3 : Int) (h : Hp) (y : Hp) (hf : JA_fillJR l0 l1 l2 l3 h = some y) : zM l yJ7_fill_bad5a cJ7_fill_bad5a 6 none d 0 0 g 157 h [(2, l0), (0, l1), (0, l2), (1, l3)] 157 y none := by
  obtain ⟨d, rfl⟩ : ∃ k, d = k + 1 := ⟨d - 1, by omega⟩
  replace hd : 0 ≤ d := Nat.le_of_succ_le_succ hd
  refine z_start (by decide) (Nat.le_of_ble_eq_true rfl) (fun x X hK _ _ _ hl => ?_)
  show ZV g x 6 h 0 [(0, (2, l0)), (1, (0, l1)), (2, (0, l2)), (3, (1, l3))] []
  unfold JA_fillJR at hf
  refine z_aload_n X dJ7_fill_bad5a_0 0 rfl ?_
  obtain ⟨g1, hf⟩ := gif hf
  refine y_alen X dJ7_fill_bad5a_1 (by omega) ?_
  refine z_iload_n X dJ7_fill_bad5a_2 1 rfl ?_
  refine z_iload_n X dJ7_fill_bad5a_3 2 rfl ?_
  obtain ⟨r4, hr4, hf⟩ := obE hf
  refine y_S0 X cs_RJ7_13 dJ7_fill_bad5a_4 (c_JA_rangeCheck d (Nat.zero_le _) (kL l0) l1 l2 h r4 hr4) (as := [(0, kL l0), (0, l1), (0, l2)]) rfl rfl (Nat.le_of_ble_eq_true rfl) z00 ?_
  refine z_iload_n X dJ7_fill_bad5a_7 1 rfl ?_
  refine z_istore X dJ7_fill_bad5a_8 (by decide) (ls' := [(5, (0, l1)), (0, (2, l0)), (1, (0, l1)), (2, (0, l2)), (3, (1, l3))]) rfl ?_
  obtain ⟨q10, hq10, hf⟩ := obE hf
  have hx10_0 : ∀ e27 : Hp, (e27 : Hp) = q10 → ZV g x 6 e27 27 [] [] := by
    intro e27 hq
    subst hq
    cases hf
    exact z_vret X hK dJ7_fill_bad5a_27
  exact z_weak [1, 3, 4, 0] rfl (z_loop (Z := (fun q : Int × Hp => ZV g x 6 q.2 10 [(0, (2, l0)), (2, (0, l2)), (3, (1, l3)), (5, (0, q.1))] [])) (E := fun q => q = q10) (fun q y hb hk => z_JA_fillJR_L10 X hd l0 l2 l3 (fun q => q = q10) hx10_0 q.1 q.2 y hb hk) LN (l1, h) q10 hq10 rfl)
set_option maxHeartbeats 4000000 in
set_option maxRecDepth 100000 in
theorem z_Ch_clear_L13 {g : GP} {x : CX} {d : Nat} (X : zX g x RX2 cX2_clear 3 (d + 1)) (hd : 1 ≤ d) (l0 l1 : Int)  (E : Hp → Prop) (hx0 : ∀ e : Hp, E (e) → ZV g x 3 e 52 [(0, (2, l0)), (1, (0, l1))] []) (l2 : Int) (h : Hp) (y : (Int × Hp) ⊕ (Hp)) (hf : Ch_clear_L13 l0 l1 l2 h = some y) (hk : z_sum (fun q : Int × Hp => ZV g x 3 q.2 13 [(0, (2, l0)), (1, (0, l1)), (2, (0, q.1))] []) E y) : ZV g x 3 h 13 [(0, (2, l0)), (1, (0, l1)), (2, (0, l2))] [] := by
  unfold Ch_clear_L13 at hf
  refine z_iload_n X dX2_clear_13 2 rfl ?_
  refine z_iconst X dX2_clear_14 kc_2 ?_
  refine z_aload_n X dX2_clear_15 0 rfl ?_
  obtain ⟨g3, hf⟩ := gif hf
  refine y_get X fl_RX2_12 dX2_clear_16 g3 ?_
  obtain ⟨g4, hf⟩ := gif hf
  refine y_get X fl_RX2_26 dX2_clear_19 g4 ?_
  refine z_imul X dX2_clear_22 ?_
  refine z_icmp_ge X dX2_clear_23 rfl (fun hc23 => ?_) (fun hc23 => ?_)
  · have hf := ift hc23 hf
    cases hf
    exact z_weak [0, 1] rfl (hx0 _ hk)
  · have hf := iff' hc23 hf
    refine z_aload_n X dX2_clear_26 0 rfl ?_
    refine y_get X fl_RX2_19 dX2_clear_27 g3 ?_
    refine z_iload_n X dX2_clear_30 2 rfl ?_
    refine z_sipush X dX2_clear_31 ks_495 kc_495 ?_
    refine z_imul X dX2_clear_34 ?_
    refine z_iload_n X dX2_clear_35 2 rfl ?_
    refine z_sipush X dX2_clear_36 ks_495 kc_495 ?_
    refine z_imul X dX2_clear_39 ?_
    refine z_iload_n X dX2_clear_40 1 rfl ?_
    refine z_iadd X dX2_clear_41 ?_
    refine z_lconst0 X dX2_clear_42 ?_
    obtain ⟨r43, hr43, hf⟩ := obE hf
    refine y_S0 X cs_RX2_88 dX2_clear_43 (c_JA_fillJR d (Nat.le_trans (by decide) hd) (h l0 4) (w32 (l2 * 495)) (w32 ((w32 (l2 * 495)) + l1)) 0 h r43 hr43) (as := [(2, h l0 4), (0, w32 (l2 * 495)), (0, w32 ((w32 (l2 * 495)) + l1)), (1, 0)]) rfl rfl (Nat.le_of_ble_eq_true rfl) z00 ?_
    refine z_iinc X dX2_clear_46 2 rfl (by decide) (ls' := [(2, (0, w32 (l2 + 1))), (0, (2, l0)), (1, (0, l1))]) rfl ?_
    refine z_goto X dX2_clear_49 rfl ?_
    cases hf
    exact z_weak [1, 2, 0] rfl hk
set_option maxHeartbeats 4000000 in
set_option maxRecDepth 100000 in
theorem z_Ch_clear_L54 {g : GP} {x : CX} {d : Nat} (X : zX g x RX2 cX2_clear 3 (d + 1)) (hd : 1 ≤ d) (l0 l1 : Int)  (E : Hp → Prop) (hx0 : ∀ e : Hp, E (e) → ZV g x 3 e 91 [] []) (l2 : Int) (h : Hp) (y : (Int × Hp) ⊕ (Hp)) (hf : Ch_clear_L54 l0 l1 l2 h = some y) (hk : z_sum (fun q : Int × Hp => ZV g x 3 q.2 54 [(0, (2, l0)), (1, (0, l1)), (2, (0, q.1))] []) E y) : ZV g x 3 h 54 [(0, (2, l0)), (1, (0, l1)), (2, (0, l2))] [] := by
  unfold Ch_clear_L54 at hf
  refine z_iload_n X dX2_clear_54 2 rfl ?_
  refine z_aload_n X dX2_clear_55 0 rfl ?_
  obtain ⟨g5, hf⟩ := gif hf
  refine y_get X fl_RX2_12 dX2_clear_56 g5 ?_
  obtain ⟨g6, hf⟩ := gif hf
  refine y_get X fl_RX2_94 dX2_clear_59 g6 ?_
  refine z_icmp_ge X dX2_clear_62 rfl (fun hc62 => ?_) (fun hc62 => ?_)
  · have hf := ift hc62 hf
    cases hf
    exact z_weak [] rfl (hx0 _ hk)
  · have hf := iff' hc62 hf
    refine z_aload_n X dX2_clear_65 0 rfl ?_
    refine y_get X fl_RX2_23 dX2_clear_66 g5 ?_
    refine z_iload_n X dX2_clear_69 2 rfl ?_
    refine z_sipush X dX2_clear_70 ks_495 kc_495 ?_
    refine z_imul X dX2_clear_73 ?_
    refine z_iload_n X dX2_clear_74 2 rfl ?_
    refine z_sipush X dX2_clear_75 ks_495 kc_495 ?_
    refine z_imul X dX2_clear_78 ?_
    refine z_iload_n X dX2_clear_79 1 rfl ?_
    refine z_iadd X dX2_clear_80 ?_
    refine z_lconst0 X dX2_clear_81 ?_
    obtain ⟨r82, hr82, hf⟩ := obE hf
    refine y_S0 X cs_RX2_88 dX2_clear_82 (c_JA_fillJR d (Nat.le_trans (by decide) hd) (h l0 5) (w32 (l2 * 495)) (w32 ((w32 (l2 * 495)) + l1)) 0 h r82 hr82) (as := [(2, h l0 5), (0, w32 (l2 * 495)), (0, w32 ((w32 (l2 * 495)) + l1)), (1, 0)]) rfl rfl (Nat.le_of_ble_eq_true rfl) z00 ?_
    refine z_iinc X dX2_clear_85 2 rfl (by decide) (ls' := [(2, (0, w32 (l2 + 1))), (0, (2, l0)), (1, (0, l1))]) rfl ?_
    refine z_goto X dX2_clear_88 rfl ?_
    cases hf
    exact z_weak [1, 2, 0] rfl hk
set_option maxHeartbeats 4000000 in
set_option maxRecDepth 100000 in
theorem c_Ch_clear {l : Launch} {g : GP} (d : Nat) (hd : 2 ≤ d) (l0 : Int) (h : Hp) (y : Hp) (hf : Ch_clear l0 h = some y) : zM l yX2_clear cX2_clear 3 none d 0 0 g 157 h [(2, l0)] 157 y none := by
  obtain ⟨d, rfl⟩ : ∃ k, d = k + 1 := ⟨d - 1, by omega⟩
  replace hd : 1 ≤ d := Nat.le_of_succ_le_succ hd
  refine z_start (by decide) (Nat.le_of_ble_eq_true rfl) (fun x X hK _ _ _ hl => ?_)
  show ZV g x 3 h 0 [(0, (2, l0))] []
  unfold Ch_clear at hf
  refine z_getJ X kt_RX2_45 dX2_clear_0 ?_
  refine z_aload_n X dX2_clear_3 0 rfl ?_
  obtain ⟨g1, hf⟩ := gif hf
  refine y_get X fl_RX2_30 dX2_clear_4 g1 ?_
  refine z_iconst X dX2_clear_7 kc_1 ?_
  refine z_iadd X dX2_clear_8 ?_
  obtain ⟨g2, hf⟩ := gif hf
  refine z_taldJ X dX2_clear_9 g2.1 g2.2 ?_
  refine z_istore_n X dX2_clear_10 (by decide) (ls' := [(1, (0, sJ (w32 ((h l0 1) + 1)))), (0, (2, l0))]) rfl ?_
  refine z_iconst X dX2_clear_11 kc_0 ?_
  refine z_istore_n X dX2_clear_12 (by decide) (ls' := [(2, (0, 0)), (1, (0, sJ (w32 ((h l0 1) + 1)))), (0, (2, l0))]) rfl ?_
  obtain ⟨q13, hq13, hf⟩ := obE hf
  have hx13_0 : ∀ e52 : Hp, (e52 : Hp) = q13 → ZV g x 3 e52 52 [(0, (2, l0)), (1, (0, sJ (w32 ((h l0 1) + 1))))] [] := by
    intro e52 hq
    subst hq
    refine z_iconst X dX2_clear_52 kc_0 ?_
    refine z_istore_n X dX2_clear_53 (by decide) (ls' := [(2, (0, 0)), (0, (2, l0)), (1, (0, sJ (w32 ((h l0 1) + 1))))]) rfl ?_
    obtain ⟨q54, hq54, hf⟩ := obE hf
    have hx54_0 : ∀ e91 : Hp, (e91 : Hp) = q54 → ZV g x 3 e91 91 [] [] := by
      intro e91 hq
      subst hq
      cases hf
      exact z_vret X hK dX2_clear_91
    exact z_weak [1, 2, 0] rfl (z_loop (Z := (fun q : Int × Hp => ZV g x 3 q.2 54 [(0, (2, l0)), (1, (0, sJ (w32 ((h l0 1) + 1)))), (2, (0, q.1))] [])) (E := fun q => q = q54) (fun q y hb hk => z_Ch_clear_L54 X hd l0 (sJ (w32 ((h l0 1) + 1))) (fun q => q = q54) hx54_0 q.1 q.2 y hb hk) LN (0, e52) q54 hq54 rfl)
  exact z_weak [2, 1, 0] rfl (z_loop (Z := (fun q : Int × Hp => ZV g x 3 q.2 13 [(0, (2, l0)), (1, (0, sJ (w32 ((h l0 1) + 1)))), (2, (0, q.1))] [])) (E := fun q => q = q13) (fun q y hb hk => z_Ch_clear_L13 X hd l0 (sJ (w32 ((h l0 1) + 1))) (fun q => q = q13) hx13_0 q.1 q.2 y hb hk) LN (0, h) q13 hq13 rfl)
set_option maxHeartbeats 4000000 in
set_option maxRecDepth 100000 in
theorem z_JI_numberOfTrailingZeros_j74 {g : GP} {x : CX} {d : Nat} (X : zX g x RJ6 cJ6_numberOfTrailingZeros_0f7a4 2 d) (l0 l1 : Int) (h : Hp) (y : Int) (hf : JI_numberOfTrailingZeros_j74 l0 l1 = some y) (hK : zE g x (some .int) 0 0 157 h (some (0, y))) : ZV g x 2 h 74 [(0, (0, l0)), (1, (0, l1))] [] := by
  unfold JI_numberOfTrailingZeros_j74 at hf
  refine z_iload_n X dJ6_numberOfTrailingZeros_0f7a4_74 1 rfl ?_
  refine z_iload_n X dJ6_numberOfTrailingZeros_0f7a4_75 0 rfl ?_
  refine z_iconst X dJ6_numberOfTrailingZeros_0f7a4_76 kc_1 ?_
  refine z_iushr X dJ6_numberOfTrailingZeros_0f7a4_77 ?_
  refine z_iadd X dJ6_numberOfTrailingZeros_0f7a4_78 ?_
  cases hf
  exact z_iret X hK dJ6_numberOfTrailingZeros_0f7a4_79
set_option maxHeartbeats 4000000 in
set_option maxRecDepth 100000 in
theorem z_JI_numberOfTrailingZeros_j62 {g : GP} {x : CX} {d : Nat} (X : zX g x RJ6 cJ6_numberOfTrailingZeros_0f7a4 2 d) (l0 l1 : Int) (h : Hp) (y : Int) (hf : JI_numberOfTrailingZeros_j62 l0 l1 = some y) (hK : zE g x (some .int) 0 0 157 h (some (0, y))) : ZV g x 2 h 62 [(0, (0, l0)), (1, (0, l1))] [] := by
  unfold JI_numberOfTrailingZeros_j62 at hf
  refine z_iload_n X dJ6_numberOfTrailingZeros_0f7a4_62 0 rfl ?_
  refine z_iconst X dJ6_numberOfTrailingZeros_0f7a4_63 kc_4 ?_
  refine z_icmp_le X dJ6_numberOfTrailingZeros_0f7a4_64 rfl (fun hc64 => ?_) (fun hc64 => ?_)
  · have hf := ift hc64 hf
    exact (z_JI_numberOfTrailingZeros_j74 X l0 l1 h _ hf hK)
  · have hf := iff' hc64 hf
    refine z_iinc X dJ6_numberOfTrailingZeros_0f7a4_67 1 rfl (by decide) (ls' := [(1, (0, w32 (l1 + 2))), (0, (0, l0))]) rfl ?_
    refine z_iload_n X dJ6_numberOfTrailingZeros_0f7a4_70 1 rfl ?_
    refine z_iconst X dJ6_numberOfTrailingZeros_0f7a4_71 kc_2 ?_
    refine z_iushr X dJ6_numberOfTrailingZeros_0f7a4_72 ?_
    refine z_istore_n X dJ6_numberOfTrailingZeros_0f7a4_73 (by decide) (ls' := [(0, (0, i_ushr l0 2)), (1, (0, w32 (l1 + 2)))]) rfl ?_
    exact (z_JI_numberOfTrailingZeros_j74 X (i_ushr l0 2) (w32 (l1 + 2)) h _ hf hK)
set_option maxHeartbeats 4000000 in
set_option maxRecDepth 100000 in
theorem z_JI_numberOfTrailingZeros_j49 {g : GP} {x : CX} {d : Nat} (X : zX g x RJ6 cJ6_numberOfTrailingZeros_0f7a4 2 d) (l0 l1 : Int) (h : Hp) (y : Int) (hf : JI_numberOfTrailingZeros_j49 l0 l1 = some y) (hK : zE g x (some .int) 0 0 157 h (some (0, y))) : ZV g x 2 h 49 [(0, (0, l0)), (1, (0, l1))] [] := by
  unfold JI_numberOfTrailingZeros_j49 at hf
  refine z_iload_n X dJ6_numberOfTrailingZeros_0f7a4_49 0 rfl ?_
  refine z_bipush X dJ6_numberOfTrailingZeros_0f7a4_50 kb_16 kc_16 ?_
  refine z_icmp_le X dJ6_numberOfTrailingZeros_0f7a4_52 rfl (fun hc52 => ?_) (fun hc52 => ?_)
  · have hf := ift hc52 hf
    exact (z_JI_numberOfTrailingZeros_j62 X l0 l1 h _ hf hK)
  · have hf := iff' hc52 hf
    refine z_iinc X dJ6_numberOfTrailingZeros_0f7a4_55 1 rfl (by decide) (ls' := [(1, (0, w32 (l1 + 4))), (0, (0, l0))]) rfl ?_
    refine z_iload_n X dJ6_numberOfTrailingZeros_0f7a4_58 1 rfl ?_
    refine z_iconst X dJ6_numberOfTrailingZeros_0f7a4_59 kc_4 ?_
    refine z_iushr X dJ6_numberOfTrailingZeros_0f7a4_60 ?_
    refine z_istore_n X dJ6_numberOfTrailingZeros_0f7a4_61 (by decide) (ls' := [(0, (0, i_ushr l0 4)), (1, (0, w32 (l1 + 4)))]) rfl ?_
    exact (z_JI_numberOfTrailingZeros_j62 X (i_ushr l0 4) (w32 (l1 + 4)) h _ hf hK)
set_option maxHeartbeats 4000000 in
set_option maxRecDepth 100000 in
theorem z_JI_numberOfTrailingZeros_j34 {g : GP} {x : CX} {d : Nat} (X : zX g x RJ6 cJ6_numberOfTrailingZeros_0f7a4 2 d) (l0 l1 : Int) (h : Hp) (y : Int) (hf : JI_numberOfTrailingZeros_j34 l0 l1 = some y) (hK : zE g x (some .int) 0 0 157 h (some (0, y))) : ZV g x 2 h 34 [(0, (0, l0)), (1, (0, l1))] [] := by
  unfold JI_numberOfTrailingZeros_j34 at hf
  refine z_iload_n X dJ6_numberOfTrailingZeros_0f7a4_34 0 rfl ?_
  refine z_sipush X dJ6_numberOfTrailingZeros_0f7a4_35 ks_256 kc_256 ?_
  refine z_icmp_le X dJ6_numberOfTrailingZeros_0f7a4_38 rfl (fun hc38 => ?_) (fun hc38 => ?_)
  · have hf := ift hc38 hf
    exact (z_JI_numberOfTrailingZeros_j49 X l0 l1 h _ hf hK)
  · have hf := iff' hc38 hf
    refine z_iinc X dJ6_numberOfTrailingZeros_0f7a4_41 1 rfl (by decide) (ls' := [(1, (0, w32 (l1 + 8))), (0, (0, l0))]) rfl ?_
    refine z_iload_n X dJ6_numberOfTrailingZeros_0f7a4_44 1 rfl ?_
    refine z_bipush X dJ6_numberOfTrailingZeros_0f7a4_45 kb_8 kc_8 ?_
    refine z_iushr X dJ6_numberOfTrailingZeros_0f7a4_47 ?_
    refine z_istore_n X dJ6_numberOfTrailingZeros_0f7a4_48 (by decide) (ls' := [(0, (0, i_ushr l0 8)), (1, (0, w32 (l1 + 8)))]) rfl ?_
    exact (z_JI_numberOfTrailingZeros_j49 X (i_ushr l0 8) (w32 (l1 + 8)) h _ hf hK)
set_option maxHeartbeats 4000000 in
set_option maxRecDepth 100000 in
theorem c_JI_numberOfTrailingZeros {l : Launch} {g : GP} (d : Nat) (hd : 0 ≤ d) (l0 : Int) (h : Hp) (y : Int) (hf : JI_numberOfTrailingZeros l0 = some y) : zM l yJ6_numberOfTrailingZeros_0f7a4 cJ6_numberOfTrailingZeros_0f7a4 2 (some .int) d 0 0 g 157 h [(0, l0)] 157 h (some (0, y)) := by
  refine z_start (by decide) (Nat.le_of_ble_eq_true rfl) (fun x X hK _ _ _ hl => ?_)
  show ZV g x 2 h 0 [(0, (0, l0))] []
  unfold JI_numberOfTrailingZeros at hf
  refine z_iload_n X dJ6_numberOfTrailingZeros_0f7a4_0 0 rfl ?_
  refine z_iconst X dJ6_numberOfTrailingZeros_0f7a4_1 kc_m1 ?_
  refine z_ixor X dJ6_numberOfTrailingZeros_0f7a4_2 ?_
  refine z_iload_n X dJ6_numberOfTrailingZeros_0f7a4_3 0 rfl ?_
  refine z_iconst X dJ6_numberOfTrailingZeros_0f7a4_4 kc_1 ?_
  refine z_isub X dJ6_numberOfTrailingZeros_0f7a4_5 ?_
  refine z_iand X dJ6_numberOfTrailingZeros_0f7a4_6 ?_
  refine z_istore_n X dJ6_numberOfTrailingZeros_0f7a4_7 (by decide) (ls' := [(0, (0, i_and (i_xor l0 ((-1))) (w32 (l0 - 1))))]) rfl ?_
  refine z_iload_n X dJ6_numberOfTrailingZeros_0f7a4_8 0 rfl ?_
  refine z_if_gt X dJ6_numberOfTrailingZeros_0f7a4_9 rfl (fun hc9 => ?_) (fun hc9 => ?_)
  · have hf := ift hc9 hf
    refine z_iconst X dJ6_numberOfTrailingZeros_0f7a4_17 kc_1 ?_
    refine z_istore_n X dJ6_numberOfTrailingZeros_0f7a4_18 (by decide) (ls' := [(1, (0, 1)), (0, (0, i_and (i_xor l0 ((-1))) (w32 (l0 - 1))))]) rfl ?_
    refine z_iload_n X dJ6_numberOfTrailingZeros_0f7a4_19 1 rfl ?_
    refine z_ldcw X ki_RJ6_264 kc_65536 dJ6_numberOfTrailingZeros_0f7a4_20 ?_
    refine z_icmp_le X dJ6_numberOfTrailingZeros_0f7a4_23 rfl (fun hc23 => ?_) (fun hc23 => ?_)
    · have hf := ift hc23 hf
      exact z_weak [1, 0] rfl (z_JI_numberOfTrailingZeros_j34 X (i_and (i_xor l0 ((-1))) (w32 (l0 - 1))) 1 h _ hf hK)
    · have hf := iff' hc23 hf
      refine z_iinc X dJ6_numberOfTrailingZeros_0f7a4_26 0 rfl (by decide) (ls' := [(1, (0, w32 (1 + 16))), (0, (0, i_and (i_xor l0 ((-1))) (w32 (l0 - 1))))]) rfl ?_
      refine z_iload_n X dJ6_numberOfTrailingZeros_0f7a4_29 1 rfl ?_
      refine z_bipush X dJ6_numberOfTrailingZeros_0f7a4_30 kb_16 kc_16 ?_
      refine z_iushr X dJ6_numberOfTrailingZeros_0f7a4_32 ?_
      refine z_istore_n X dJ6_numberOfTrailingZeros_0f7a4_33 (by decide) (ls' := [(0, (0, i_ushr (i_and (i_xor l0 ((-1))) (w32 (l0 - 1))) 16)), (1, (0, w32 (1 + 16)))]) rfl ?_
      exact (z_JI_numberOfTrailingZeros_j34 X (i_ushr (i_and (i_xor l0 ((-1))) (w32 (l0 - 1))) 16) (w32 (1 + 16)) h _ hf hK)
  · have hf := iff' hc9 hf
    refine z_iload_n X dJ6_numberOfTrailingZeros_0f7a4_12 0 rfl ?_
    refine z_bipush X dJ6_numberOfTrailingZeros_0f7a4_13 kb_32 kc_32 ?_
    refine z_iand X dJ6_numberOfTrailingZeros_0f7a4_15 ?_
    cases hf
    exact z_iret X hK dJ6_numberOfTrailingZeros_0f7a4_16
set_option maxHeartbeats 4000000 in
set_option maxRecDepth 100000 in
theorem c_Ch_guestRow {l : Launch} {g : GP} (d : Nat) (hd : 1 ≤ d) (l0 l1 : Int) (h : Hp) (y : Int) (hf : Ch_guestRow l0 l1 h = some y) : zM l yX2_guestRow cX2_guestRow 3 (some .int) d 0 0 g 157 h [(2, l0), (0, l1)] 157 h (some (0, y)) := by
  obtain ⟨d, rfl⟩ : ∃ k, d = k + 1 := ⟨d - 1, by omega⟩
  replace hd : 0 ≤ d := Nat.le_of_succ_le_succ hd
  refine z_start (by decide) (Nat.le_of_ble_eq_true rfl) (fun x X hK _ _ _ hl => ?_)
  show ZV g x 3 h 0 [(0, (2, l0)), (1, (0, l1))] []
  unfold Ch_guestRow at hf
  refine z_aload_n X dX2_guestRow_0 0 rfl ?_
  obtain ⟨g1, hf⟩ := gif hf
  refine y_get X fl_RX2_12 dX2_guestRow_1 g1 ?_
  obtain ⟨g2, hf⟩ := gif hf
  refine y_get X fl_RX2_153 dX2_guestRow_4 g2 ?_
  refine z_iload_n X dX2_guestRow_7 1 rfl ?_
  obtain ⟨g3, hf⟩ := gif hf
  refine y_iald X dX2_guestRow_8 g3 ?_
  refine z_istore_n X dX2_guestRow_9 (by decide) (ls' := [(2, (0, h (h (h l0 0) 18) l1)), (0, (2, l0)), (1, (0, l1))]) rfl ?_
  refine z_iload_n X dX2_guestRow_10 0 rfl ?_
  refine z_aload_n X dX2_guestRow_11 1 rfl ?_
  refine y_get X fl_RX2_54 dX2_guestRow_12 g1 ?_
  refine z_iconst X dX2_guestRow_15 kc_m1 ?_
  refine z_ixor X dX2_guestRow_16 ?_
  refine z_iand X dX2_guestRow_17 ?_
  refine z_if_ne X dX2_guestRow_18 rfl (fun hc18 => ?_) (fun hc18 => ?_)
  · have hf := iff' hc18 hf
    refine z_iload_n X dX2_guestRow_25 0 rfl ?_
    obtain ⟨r26, hr26, hf⟩ := obE hf
    refine y_S1 X cs_RX2_156 dX2_guestRow_26 (c_JI_numberOfTrailingZeros d (Nat.zero_le _) (h (h (h l0 0) 18) l1) h r26 hr26) (as := [(0, h (h (h l0 0) 18) l1)]) rfl rfl (Nat.le_of_ble_eq_true rfl) z00 ?_
    refine z_sipush X dX2_guestRow_29 ks_495 kc_495 ?_
    refine z_imul X dX2_guestRow_32 ?_
    cases hf
    exact z_iret X hK dX2_guestRow_33
  · have hf := ift hc18 hf
    refine z_iconst X dX2_guestRow_21 kc_m1 ?_
    refine z_goto X dX2_guestRow_22 rfl ?_
    cases hf
    exact z_iret X hK dX2_guestRow_33
set_option maxHeartbeats 4000000 in
set_option maxRecDepth 100000 in
theorem c_Co_either {l : Launch} {g : GP} (d : Nat) (hd : 0 ≤ d) (l0 l1 l3 : Int) (h : Hp) (y : Int) (hf : Co_either l0 l1 l3 = some y) : zM l yX3_either cX3_either 5 (some .long) d 0 0 g 157 h [(2, l0), (1, l1), (1, l3)] 157 h (some (1, y)) := by
  refine z_start (by decide) (Nat.le_of_ble_eq_true rfl) (fun x X hK _ _ _ hl => ?_)
  show ZV g x 5 h 0 [(0, (2, l0)), (1, (1, l1)), (3, (1, l3))] []
  unfold Co_either at hf
  refine z_lload_n X dX3_either_0 1 rfl ?_
  refine z_ldc2 X kj_RX3_15 kl_1000000000000001 dX3_either_1 ?_
  refine z_lload_n X dX3_either_4 2 rfl ?_
  refine z_lsub X dX3_either_5 ?_
  refine z_l_le X dX3_either_6 dX3_either_7 rfl (fun hc6 => ?_) (fun hc6 => ?_)
  · rw [if_pos hc6] at hf
    refine z_lload_n X dX3_either_16 1 rfl ?_
    refine z_lload_n X dX3_either_17 2 rfl ?_
    refine z_ladd X dX3_either_18 ?_
    cases hf
    exact z_lret X hK dX3_either_19
  · rw [if_neg hc6] at hf
    refine z_ldc2 X kj_RX3_15 kl_1000000000000001 dX3_either_10 ?_
    refine z_goto X dX3_either_13 rfl ?_
    cases hf
    exact z_lret X hK dX3_either_19
set_option maxHeartbeats 4000000 in
set_option maxRecDepth 100000 in
theorem c_Co_placed {l : Launch} {g : GP} (d : Nat) (hd : 0 ≤ d) (l0 l1 l2 : Int) (h : Hp) (y : Int) (hf : Co_placed l0 l1 l2 = some y) : zM l yX3_placed cX3_placed 4 (some .long) d 0 0 g 157 h [(2, l0), (0, l1), (1, l2)] 157 h (some (1, y)) := by
  refine z_start (by decide) (Nat.le_of_ble_eq_true rfl) (fun x X hK _ _ _ hl => ?_)
  show ZV g x 4 h 0 [(0, (2, l0)), (1, (0, l1)), (2, (1, l2))] []
  unfold Co_placed at hf
  refine z_lload_n X dX3_placed_0 2 rfl ?_
  cases hf
  exact z_lret X hK dX3_placed_1
set_option maxHeartbeats 4000000 in
set_option maxRecDepth 100000 in
theorem c_Ms_either {l : Launch} {g : GP} (d : Nat) (hd : 0 ≤ d) (l0 l1 l3 : Int) (h : Hp) (y : Int) (hf : Ms_either l0 l1 l3 = some y) : zM l yX6_either cX6_either 5 (some .long) d 0 0 g 157 h [(2, l0), (1, l1), (1, l3)] 157 h (some (1, y)) := by
  refine z_start (by decide) (Nat.le_of_ble_eq_true rfl) (fun x X hK _ _ _ hl => ?_)
  show ZV g x 5 h 0 [(0, (2, l0)), (1, (1, l1)), (3, (1, l3))] []
  unfold Ms_either at hf
  refine z_lload_n X dX6_either_0 1 rfl ?_
  refine z_lload_n X dX6_either_1 2 rfl ?_
  refine z_lor X dX6_either_2 ?_
  cases hf
  exact z_lret X hK dX6_either_3
set_option maxHeartbeats 4000000 in
set_option maxRecDepth 100000 in
theorem c_Ms_placed {l : Launch} {g : GP} (d : Nat) (hd : 0 ≤ d) (l0 l1 l2 : Int) (h : Hp) (y : Int) (hf : Ms_placed l0 l1 l2 = some y) : zM l yX6_placed cX6_placed 4 (some .long) d 0 0 g 157 h [(2, l0), (0, l1), (1, l2)] 157 h (some (1, y)) := by
  refine z_start (by decide) (Nat.le_of_ble_eq_true rfl) (fun x X hK _ _ _ hl => ?_)
  show ZV g x 4 h 0 [(0, (2, l0)), (1, (0, l1)), (2, (1, l2))] []
  unfold Ms_placed at hf
  refine z_lload_n X dX6_placed_0 2 rfl ?_
  cases hf
  exact z_lret X hK dX6_placed_1
set_option maxHeartbeats 4000000 in
set_option maxRecDepth 100000 in
theorem c_Su_every {l : Launch} {g : GP} (d : Nat) (hd : 0 ≤ d) (l0 : Int) (h : Hp) (y : Int) (hf : Su_every l0 = some y) : zM l yX8_every cX8_every 2 (some .int) d 0 0 g 157 h [(1, l0)] 157 h (some (0, y)) := by
  refine z_start (by decide) (Nat.le_of_ble_eq_true rfl) (fun x X hK _ _ _ hl => ?_)
  show ZV g x 2 h 0 [(0, (1, l0))] []
  unfold Su_every at hf
  refine z_lload_n X dX8_every_0 0 rfl ?_
  refine z_bipush X dX8_every_1 kb_8 kc_8 ?_
  refine z_lshr X dX8_every_3 ?_
  refine z_ldc2 X kj_RX8_13 kl_255 dX8_every_4 ?_
  refine z_land X dX8_every_7 ?_
  refine z_l2i X dX8_every_8 ?_
  cases hf
  exact z_iret X hK dX8_every_9
set_option maxHeartbeats 4000000 in
set_option maxRecDepth 100000 in
theorem c_Su_fewest {l : Launch} {g : GP} (d : Nat) (hd : 0 ≤ d) (l0 : Int) (h : Hp) (y : Int) (hf : Su_fewest l0 = some y) : zM l yX8_fewest cX8_fewest 2 (some .int) d 0 0 g 157 h [(1, l0)] 157 h (some (0, y)) := by
  refine z_start (by decide) (Nat.le_of_ble_eq_true rfl) (fun x X hK _ _ _ hl => ?_)
  show ZV g x 2 h 0 [(0, (1, l0))] []
  unfold Su_fewest at hf
  refine z_lload_n X dX8_fewest_0 0 rfl ?_
  refine z_bipush X dX8_fewest_1 kb_16 kc_16 ?_
  refine z_lshr X dX8_fewest_3 ?_
  refine z_ldc2 X kj_RX8_13 kl_255 dX8_fewest_4 ?_
  refine z_land X dX8_fewest_7 ?_
  refine z_l2i X dX8_fewest_8 ?_
  cases hf
  exact z_iret X hK dX8_fewest_9
set_option maxHeartbeats 4000000 in
set_option maxRecDepth 100000 in
theorem c_Su_most {l : Launch} {g : GP} (d : Nat) (hd : 0 ≤ d) (l0 : Int) (h : Hp) (y : Int) (hf : Su_most l0 = some y) : zM l yX8_most cX8_most 2 (some .int) d 0 0 g 157 h [(1, l0)] 157 h (some (0, y)) := by
  refine z_start (by decide) (Nat.le_of_ble_eq_true rfl) (fun x X hK _ _ _ hl => ?_)
  show ZV g x 2 h 0 [(0, (1, l0))] []
  unfold Su_most at hf
  refine z_lload_n X dX8_most_0 0 rfl ?_
  refine z_bipush X dX8_most_1 kb_24 kc_24 ?_
  refine z_lshr X dX8_most_3 ?_
  refine z_ldc2 X kj_RX8_13 kl_255 dX8_most_4 ?_
  refine z_land X dX8_most_7 ?_
  refine z_l2i X dX8_most_8 ?_
  cases hf
  exact z_iret X hK dX8_most_9
set_option maxHeartbeats 4000000 in
set_option maxRecDepth 100000 in
theorem c_Su_packed {l : Launch} {g : GP} (d : Nat) (hd : 0 ≤ d) (l0 l1 l2 l3 : Int) (h : Hp) (y : Int) (hf : Su_packed l0 l1 l2 l3 = some y) : zM l yX8_packed cX8_packed 4 (some .long) d 0 0 g 157 h [(0, l0), (0, l1), (0, l2), (0, l3)] 157 h (some (1, y)) := by
  refine z_start (by decide) (Nat.le_of_ble_eq_true rfl) (fun x X hK _ _ _ hl => ?_)
  show ZV g x 4 h 0 [(0, (0, l0)), (1, (0, l1)), (2, (0, l2)), (3, (0, l3))] []
  unfold Su_packed at hf
  refine z_ldc2 X kj_RX8_15 kl_4294967296 dX8_packed_0 ?_
  refine z_iload_n X dX8_packed_3 0 rfl ?_
  refine z_i2l X dX8_packed_4 ?_
  refine z_lor X dX8_packed_5 ?_
  refine z_iload_n X dX8_packed_6 1 rfl ?_
  refine z_i2l X dX8_packed_7 ?_
  refine z_bipush X dX8_packed_8 kb_8 kc_8 ?_
  refine z_lshl X dX8_packed_10 ?_
  refine z_lor X dX8_packed_11 ?_
  refine z_iload_n X dX8_packed_12 2 rfl ?_
  refine z_i2l X dX8_packed_13 ?_
  refine z_bipush X dX8_packed_14 kb_16 kc_16 ?_
  refine z_lshl X dX8_packed_16 ?_
  refine z_lor X dX8_packed_17 ?_
  refine z_iload_n X dX8_packed_18 3 rfl ?_
  refine z_i2l X dX8_packed_19 ?_
  refine z_bipush X dX8_packed_20 kb_24 kc_24 ?_
  refine z_lshl X dX8_packed_22 ?_
  refine z_lor X dX8_packed_23 ?_
  cases hf
  exact z_lret X hK dX8_packed_24
set_option maxHeartbeats 4000000 in
set_option maxRecDepth 100000 in
theorem c_Su_some {l : Launch} {g : GP} (d : Nat) (hd : 0 ≤ d) (l0 : Int) (h : Hp) (y : Int) (hf : Su_some l0 = some y) : zM l yX8_some cX8_some 2 (some .int) d 0 0 g 157 h [(1, l0)] 157 h (some (0, y)) := by
  refine z_start (by decide) (Nat.le_of_ble_eq_true rfl) (fun x X hK _ _ _ hl => ?_)
  show ZV g x 2 h 0 [(0, (1, l0))] []
  unfold Su_some at hf
  refine z_lload_n X dX8_some_0 0 rfl ?_
  refine z_ldc2 X kj_RX8_13 kl_255 dX8_some_1 ?_
  refine z_land X dX8_some_4 ?_
  refine z_l2i X dX8_some_5 ?_
  cases hf
  exact z_iret X hK dX8_some_6
set_option maxHeartbeats 4000000 in
set_option maxRecDepth 100000 in
theorem z_Su_either_j12 {g : GP} {x : CX} {d : Nat} (X : zX g x RX8 cX8_either 5 (d + 1)) (hd : 0 ≤ d) (l1 l3 : Int) (h : Hp) (y : Int) (hf : Su_either_j12 l1 l3 = some y) (hK : zE g x (some .long) 0 0 157 h (some (1, y))) : ZV g x 5 h 12 [(1, (1, l1)), (3, (1, l3))] [] := by
  unfold Su_either_j12 at hf
  refine z_lload_n X dX8_either_12 0 rfl ?_
  refine z_lload_n X dX8_either_13 1 rfl ?_
  refine z_lor X dX8_either_14 ?_
  cases hf
  exact z_lret X hK dX8_either_15
set_option maxHeartbeats 4000000 in
set_option maxRecDepth 100000 in
theorem c_Su_either {l : Launch} {g : GP} (d : Nat) (hd : 1 ≤ d) (l0 l1 l3 : Int) (h : Hp) (y : Int) (hf : Su_either l0 l1 l3 = some y) : zM l yX8_either cX8_either 5 (some .long) d 0 0 g 157 h [(2, l0), (1, l1), (1, l3)] 157 h (some (1, y)) := by
  obtain ⟨d, rfl⟩ : ∃ k, d = k + 1 := ⟨d - 1, by omega⟩
  replace hd : 0 ≤ d := Nat.le_of_succ_le_succ hd
  refine z_start (by decide) (Nat.le_of_ble_eq_true rfl) (fun x X hK _ _ _ hl => ?_)
  show ZV g x 5 h 0 [(0, (2, l0)), (1, (1, l1)), (3, (1, l3))] []
  unfold Su_either at hf
  refine z_lload_n X dX8_either_0 1 rfl ?_
  refine z_lconst0 X dX8_either_1 ?_
  refine z_l_eq X dX8_either_2 dX8_either_3 rfl (fun hc2 => ?_) (fun hc2 => ?_)
  · have hf := ift hc2 hf
    exact z_weak [1, 2] rfl (z_Su_either_j12 X hd l1 l3 h _ hf hK)
  · have hf := iff' hc2 hf
    refine z_lload_n X dX8_either_6 2 rfl ?_
    refine z_lconst0 X dX8_either_7 ?_
    refine z_l_ne X dX8_either_8 dX8_either_9 rfl (fun hc8 => ?_) (fun hc8 => ?_)
    · have hf := iff' hc8 hf
      refine z_lload_n X dX8_either_16 1 rfl ?_
      obtain ⟨r17, hr17, hf⟩ := obE hf
      refine y_S1 X cs_RX8_17 dX8_either_17 (c_Su_some d (Nat.zero_le _) l1 h r17 hr17) (as := [(1, l1)]) rfl rfl (Nat.le_of_ble_eq_true rfl) z00 ?_
      refine z_lload_n X dX8_either_20 2 rfl ?_
      obtain ⟨r21, hr21, hf⟩ := obE hf
      refine y_S1 X cs_RX8_17 dX8_either_21 (c_Su_some d (Nat.zero_le _) l3 h r21 hr21) (as := [(1, l3)]) rfl rfl (Nat.le_of_ble_eq_true rfl) z00 ?_
      refine z_ior X dX8_either_24 ?_
      refine z_lload_n X dX8_either_25 1 rfl ?_
      obtain ⟨r26, hr26, hf⟩ := obE hf
      refine y_S1 X cs_RX8_21 dX8_either_26 (c_Su_every d (Nat.zero_le _) l1 h r26 hr26) (as := [(1, l1)]) rfl rfl (Nat.le_of_ble_eq_true rfl) z00 ?_
      refine z_lload_n X dX8_either_29 2 rfl ?_
      obtain ⟨r30, hr30, hf⟩ := obE hf
      refine y_S1 X cs_RX8_21 dX8_either_30 (c_Su_every d (Nat.zero_le _) l3 h r30 hr30) (as := [(1, l3)]) rfl rfl (Nat.le_of_ble_eq_true rfl) z00 ?_
      refine z_iand X dX8_either_33 ?_
      refine z_lload_n X dX8_either_34 1 rfl ?_
      obtain ⟨r35, hr35, hf⟩ := obE hf
      refine y_S1 X cs_RX8_24 dX8_either_35 (c_Su_fewest d (Nat.zero_le _) l1 h r35 hr35) (as := [(1, l1)]) rfl rfl (Nat.le_of_ble_eq_true rfl) z00 ?_
      refine z_lload_n X dX8_either_38 2 rfl ?_
      obtain ⟨r39, hr39, hf⟩ := obE hf
      refine y_S1 X cs_RX8_24 dX8_either_39 (c_Su_fewest d (Nat.zero_le _) l3 h r39 hr39) (as := [(1, l3)]) rfl rfl (Nat.le_of_ble_eq_true rfl) z00 ?_
      refine y_min X cm_RX8_34 dX8_either_42 (Nat.le_of_ble_eq_true rfl) ?_
      refine z_lload_n X dX8_either_45 1 rfl ?_
      obtain ⟨r46, hr46, hf⟩ := obE hf
      refine y_S1 X cs_RX8_27 dX8_either_46 (c_Su_most d (Nat.zero_le _) l1 h r46 hr46) (as := [(1, l1)]) rfl rfl (Nat.le_of_ble_eq_true rfl) z00 ?_
      refine z_lload_n X dX8_either_49 2 rfl ?_
      obtain ⟨r50, hr50, hf⟩ := obE hf
      refine y_S1 X cs_RX8_27 dX8_either_50 (c_Su_most d (Nat.zero_le _) l3 h r50 hr50) (as := [(1, l3)]) rfl rfl (Nat.le_of_ble_eq_true rfl) z00 ?_
      refine y_max X cm_RX8_40 dX8_either_53 (Nat.le_of_ble_eq_true rfl) ?_
      obtain ⟨r56, hr56, hf⟩ := obE hf
      refine y_S1 X cs_RX8_30 dX8_either_56 (c_Su_packed d (Nat.zero_le _) (i_or r17 r21) (i_and r26 r30) (min r35 r39) (max r46 r50) h r56 hr56) (as := [(0, i_or r17 r21), (0, i_and r26 r30), (0, min r35 r39), (0, max r46 r50)]) rfl rfl (Nat.le_of_ble_eq_true rfl) z00 ?_
      cases hf
      exact z_lret X hK dX8_either_59
    · have hf := ift hc8 hf
      exact z_weak [1, 2] rfl (z_Su_either_j12 X hd l1 l3 h _ hf hK)
