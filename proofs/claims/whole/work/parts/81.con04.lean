set_option maxHeartbeats 4000000 in
set_option maxRecDepth 100000 in
theorem z_Ch_rootsOver_L6 {g : GP} {x : CX} {d : Nat} (X : zX g x RX2 cX2_rootsOver 8 (d + 1)) (hd : 1 ≤ d) (l0 l1 l2 l3 l4 l5 : Int) (h : Hp) (E : Int → Prop) (hx0 : ∀ e : Int, E (e) → ZV g x 8 h 69 [(6, (0, e))] []) (l6 l7 : Int) (y : (Int × Int) ⊕ (Int)) (hf : Ch_rootsOver_L6 l0 l1 l2 l3 l4 l5 h l6 l7 = some y) (hk : z_sum (fun q : Int × Int => ZV g x 8 h 6 [(0, (2, l0)), (1, (0, l1)), (2, (0, l2)), (3, (0, l3)), (4, (0, l4)), (5, (0, l5)), (6, (0, q.1)), (7, (0, q.2))] []) E y) : ZV g x 8 h 6 [(0, (2, l0)), (1, (0, l1)), (2, (0, l2)), (3, (0, l3)), (4, (0, l4)), (5, (0, l5)), (6, (0, l6)), (7, (0, l7))] [] := by
  unfold Ch_rootsOver_L6 at hf
  refine z_iload X dX2_rootsOver_6 7 rfl ?_
  refine z_aload_n X dX2_rootsOver_8 0 rfl ?_
  obtain ⟨g1, hf⟩ := gif hf
  refine y_get X fl_RX2_12 dX2_rootsOver_9 g1 ?_
  obtain ⟨g2, hf⟩ := gif hf
  refine y_get X fl_RX2_94 dX2_rootsOver_12 g2 ?_
  refine z_icmp_ge X dX2_rootsOver_15 rfl (fun hc15 => ?_) (fun hc15 => ?_)
  · have hf := ift hc15 hf
    cases hf
    exact z_weak [6] rfl (hx0 _ hk)
  · have hf := iff' hc15 hf
    refine z_iload_n X dX2_rootsOver_18 1 rfl ?_
    refine z_iload X dX2_rootsOver_19 7 rfl ?_
    refine z_ishr X dX2_rootsOver_21 ?_
    refine z_iconst X dX2_rootsOver_22 kc_1 ?_
    refine z_iand X dX2_rootsOver_23 ?_
    refine z_iconst X dX2_rootsOver_24 kc_1 ?_
    refine z_icmp_ne X dX2_rootsOver_25 rfl (fun hc25 => ?_) (fun hc25 => ?_)
    · have hf := iff' hc25 hf
      exact (z_Ch_rootsOver_j63 X hd l0 l1 l2 l3 l4 l5 l6 l7 h _ hf E hx0 hk)
    · have hf := ift hc25 hf
      refine z_aload_n X dX2_rootsOver_28 0 rfl ?_
      refine z_aload_n X dX2_rootsOver_29 0 rfl ?_
      refine y_get X fl_RX2_12 dX2_rootsOver_30 g1 ?_
      refine y_get X fl_RX2_116 dX2_rootsOver_33 g2 ?_
      refine z_iload X dX2_rootsOver_36 7 rfl ?_
      obtain ⟨g3, hf⟩ := gif hf
      refine y_iald X dX2_rootsOver_38 g3 ?_
      refine z_iconst X dX2_rootsOver_39 kc_1 ?_
      refine z_iload_n X dX2_rootsOver_40 2 rfl ?_
      refine z_iload_n X dX2_rootsOver_41 3 rfl ?_
      refine z_iload X dX2_rootsOver_42 4 rfl ?_
      refine z_iload X dX2_rootsOver_44 5 rfl ?_
      obtain ⟨r46, hr46, hf⟩ := obE hf
      refine y_V1 X cv_RX2_119 dX2_rootsOver_46 g1 (c_Ch_value d (Nat.le_trans (by decide) hd) l0 (h (h (h l0 0) 6) l7) 1 l2 l3 l4 l5 h r46 hr46) (as := [(0, h (h (h l0 0) 6) l7), (0, 1), (0, l2), (0, l3), (0, l4), (0, l5)]) rfl rfl (Nat.le_of_ble_eq_true rfl) z00 ?_
      refine z_lconst0 X dX2_rootsOver_49 ?_
      refine z_l_eq X dX2_rootsOver_50 dX2_rootsOver_51 rfl (fun hc50 => ?_) (fun hc50 => ?_)
      · rw [if_pos hc50] at hf
        exact (z_Ch_rootsOver_j63 X hd l0 l1 l2 l3 l4 l5 l6 l7 h _ hf E hx0 hk)
      · rw [if_neg hc50] at hf
        refine z_iload X dX2_rootsOver_54 6 rfl ?_
        refine z_iconst X dX2_rootsOver_56 kc_1 ?_
        refine z_iload X dX2_rootsOver_57 7 rfl ?_
        refine z_ishl X dX2_rootsOver_59 ?_
        refine z_ior X dX2_rootsOver_60 ?_
        refine z_istore X dX2_rootsOver_61 (by decide) (ls' := [(6, (0, i_or l6 (i_shl 1 l7))), (0, (2, l0)), (1, (0, l1)), (2, (0, l2)), (3, (0, l3)), (4, (0, l4)), (5, (0, l5)), (7, (0, l7))]) rfl ?_
        exact z_weak [1, 2, 3, 4, 5, 6, 0, 7] rfl (z_Ch_rootsOver_j63 X hd l0 l1 l2 l3 l4 l5 (i_or l6 (i_shl 1 l7)) l7 h _ hf E hx0 hk)
set_option maxHeartbeats 4000000 in
set_option maxRecDepth 100000 in
theorem c_Ch_rootsOver {l : Launch} {g : GP} (d : Nat) (hd : 2 ≤ d) (l0 l1 l2 l3 l4 l5 : Int) (h : Hp) (y : Int) (hf : Ch_rootsOver l0 l1 l2 l3 l4 l5 h = some y) : zM l yX2_rootsOver cX2_rootsOver 8 (some .int) d 0 0 g 157 h [(2, l0), (0, l1), (0, l2), (0, l3), (0, l4), (0, l5)] 157 h (some (0, y)) := by
  obtain ⟨d, rfl⟩ : ∃ k, d = k + 1 := ⟨d - 1, by omega⟩
  replace hd : 1 ≤ d := Nat.le_of_succ_le_succ hd
  refine z_start (by decide) (Nat.le_of_ble_eq_true rfl) (fun x X hK _ _ _ hl => ?_)
  show ZV g x 8 h 0 [(0, (2, l0)), (1, (0, l1)), (2, (0, l2)), (3, (0, l3)), (4, (0, l4)), (5, (0, l5))] []
  unfold Ch_rootsOver at hf
  refine z_iconst X dX2_rootsOver_0 kc_0 ?_
  refine z_istore X dX2_rootsOver_1 (by decide) (ls' := [(6, (0, 0)), (0, (2, l0)), (1, (0, l1)), (2, (0, l2)), (3, (0, l3)), (4, (0, l4)), (5, (0, l5))]) rfl ?_
  refine z_iconst X dX2_rootsOver_3 kc_0 ?_
  refine z_istore X dX2_rootsOver_4 (by decide) (ls' := [(7, (0, 0)), (6, (0, 0)), (0, (2, l0)), (1, (0, l1)), (2, (0, l2)), (3, (0, l3)), (4, (0, l4)), (5, (0, l5))]) rfl ?_
  obtain ⟨q6, hq6, hf⟩ := obE hf
  have hx6_0 : ∀ e69 : Int, (e69 : Int) = q6 → ZV g x 8 h 69 [(6, (0, e69))] [] := by
    intro e69 hq
    subst hq
    refine z_iload X dX2_rootsOver_69 0 rfl ?_
    cases hf
    exact z_iret X hK dX2_rootsOver_71
  exact z_weak [2, 3, 4, 5, 6, 7, 1, 0] rfl (z_loop (Z := (fun q : Int × Int => ZV g x 8 h 6 [(0, (2, l0)), (1, (0, l1)), (2, (0, l2)), (3, (0, l3)), (4, (0, l4)), (5, (0, l5)), (6, (0, q.1)), (7, (0, q.2))] [])) (E := fun q => q = q6) (fun q y hb hk => z_Ch_rootsOver_L6 X hd l0 l1 l2 l3 l4 l5 h (fun q => q = q6) hx6_0 q.1 q.2 y hb hk) LN (0, 0) q6 hq6 rfl)
set_option maxHeartbeats 4000000 in
set_option maxRecDepth 100000 in
theorem z_Ch_itemsOf_j62 {g : GP} {x : CX} {d : Nat} (X : zX g x RX2 cX2_itemsOf 6 (d + 1)) (hd : 0 ≤ d) (l0 l1 l3 l4 l5 s0 s1 : Int) (h : Hp) (y : (Int × Int) ⊕ (Int)) (hf : Ch_itemsOf_j62 l0 l1 l3 l4 l5 s0 s1 h = some y) (E : Int → Prop) (hx0 : ∀ e : Int, E (e) → ZV g x 6 h 70 [(0, (2, l0)), (1, (0, l1)), (2, (0, e)), (3, (0, l3))] []) (hk : z_sum (fun q : Int × Int => ZV g x 6 h 26 [(0, (2, l0)), (1, (0, l1)), (2, (0, q.1)), (3, (0, l3)), (4, (0, l4)), (5, (0, q.2))] []) E y) : ZV g x 6 h 62 [(0, (2, l0)), (1, (0, l1)), (3, (0, l3)), (4, (0, l4)), (5, (0, l5))] [(0, s0), (0, s1)] := by
  unfold Ch_itemsOf_j62 at hf
  refine z_iadd X dX2_itemsOf_62 ?_
  refine z_istore_n X dX2_itemsOf_63 (by decide) (ls' := [(2, (0, w32 (s1 + s0))), (0, (2, l0)), (1, (0, l1)), (3, (0, l3)), (4, (0, l4)), (5, (0, l5))]) rfl ?_
  refine z_iinc X dX2_itemsOf_64 5 rfl (by decide) (ls' := [(5, (0, w32 (l5 + 1))), (2, (0, w32 (s1 + s0))), (0, (2, l0)), (1, (0, l1)), (3, (0, l3)), (4, (0, l4))]) rfl ?_
  refine z_goto X dX2_itemsOf_67 rfl ?_
  cases hf
  exact z_weak [2, 3, 1, 4, 5, 0] rfl hk
set_option maxHeartbeats 4000000 in
set_option maxRecDepth 100000 in
theorem z_Ch_itemsOf_L26 {g : GP} {x : CX} {d : Nat} (X : zX g x RX2 cX2_itemsOf 6 (d + 1)) (hd : 0 ≤ d) (l0 l1 l3 l4 : Int) (h : Hp) (E : Int → Prop) (hx0 : ∀ e : Int, E (e) → ZV g x 6 h 70 [(0, (2, l0)), (1, (0, l1)), (2, (0, e)), (3, (0, l3))] []) (l2 l5 : Int) (y : (Int × Int) ⊕ (Int)) (hf : Ch_itemsOf_L26 l0 l1 l3 l4 h l2 l5 = some y) (hk : z_sum (fun q : Int × Int => ZV g x 6 h 26 [(0, (2, l0)), (1, (0, l1)), (2, (0, q.1)), (3, (0, l3)), (4, (0, l4)), (5, (0, q.2))] []) E y) : ZV g x 6 h 26 [(0, (2, l0)), (1, (0, l1)), (2, (0, l2)), (3, (0, l3)), (4, (0, l4)), (5, (0, l5))] [] := by
  unfold Ch_itemsOf_L26 at hf
  refine z_iload X dX2_itemsOf_26 5 rfl ?_
  refine z_getJ X kt_RX2_45 dX2_itemsOf_28 ?_
  refine z_aload_n X dX2_itemsOf_31 0 rfl ?_
  obtain ⟨g3, hf⟩ := gif hf
  refine y_get X fl_RX2_30 dX2_itemsOf_32 g3 ?_
  refine z_iconst X dX2_itemsOf_35 kc_1 ?_
  refine z_iadd X dX2_itemsOf_36 ?_
  obtain ⟨g4, hf⟩ := gif hf
  refine z_taldJ X dX2_itemsOf_37 g4.1 g4.2 ?_
  refine z_icmp_ge X dX2_itemsOf_38 rfl (fun hc38 => ?_) (fun hc38 => ?_)
  · have hf := ift hc38 hf
    cases hf
    exact z_weak [0, 1, 2, 3] rfl (hx0 _ hk)
  · have hf := iff' hc38 hf
    refine z_iload_n X dX2_itemsOf_41 2 rfl ?_
    refine z_aload_n X dX2_itemsOf_42 0 rfl ?_
    refine y_get X fl_RX2_19 dX2_itemsOf_43 g3 ?_
    refine z_iload X dX2_itemsOf_46 4 rfl ?_
    refine z_iload X dX2_itemsOf_48 5 rfl ?_
    refine z_iadd X dX2_itemsOf_50 ?_
    obtain ⟨g5, hf⟩ := gif hf
    refine y_lald X dX2_itemsOf_51 g5 ?_
    refine z_lconst0 X dX2_itemsOf_52 ?_
    refine z_l_ne X dX2_itemsOf_53 dX2_itemsOf_54 rfl (fun hc53 => ?_) (fun hc53 => ?_)
    · rw [if_neg hc53] at hf
      refine z_iconst X dX2_itemsOf_61 kc_1 ?_
      exact z_weak [0, 1, 3, 4, 5] rfl (z_Ch_itemsOf_j62 X hd l0 l1 l3 l4 l5 1 l2 h _ hf E hx0 hk)
    · rw [if_pos hc53] at hf
      refine z_iconst X dX2_itemsOf_57 kc_0 ?_
      refine z_goto X dX2_itemsOf_58 rfl ?_
      exact z_weak [0, 1, 3, 4, 5] rfl (z_Ch_itemsOf_j62 X hd l0 l1 l3 l4 l5 0 l2 h _ hf E hx0 hk)
set_option maxHeartbeats 4000000 in
set_option maxRecDepth 100000 in
theorem z_Ch_itemsOf_L4 {g : GP} {x : CX} {d : Nat} (X : zX g x RX2 cX2_itemsOf 6 (d + 1)) (hd : 0 ≤ d) (l0 l1 : Int) (h : Hp) (E : Int → Prop) (hx0 : ∀ e : Int, E (e) → ZV g x 6 h 76 [(2, (0, e))] []) (l2 l3 : Int) (y : (Int × Int) ⊕ (Int)) (hf : Ch_itemsOf_L4 l0 l1 h l2 l3 = some y) (hk : z_sum (fun q : Int × Int => ZV g x 6 h 4 [(0, (2, l0)), (1, (0, l1)), (2, (0, q.1)), (3, (0, q.2))] []) E y) : ZV g x 6 h 4 [(0, (2, l0)), (1, (0, l1)), (2, (0, l2)), (3, (0, l3))] [] := by
  unfold Ch_itemsOf_L4 at hf
  refine z_iload_n X dX2_itemsOf_4 3 rfl ?_
  refine z_aload_n X dX2_itemsOf_5 0 rfl ?_
  obtain ⟨g1, hf⟩ := gif hf
  refine y_get X fl_RX2_12 dX2_itemsOf_6 g1 ?_
  obtain ⟨g2, hf⟩ := gif hf
  refine y_get X fl_RX2_26 dX2_itemsOf_9 g2 ?_
  refine z_icmp_ge X dX2_itemsOf_12 rfl (fun hc12 => ?_) (fun hc12 => ?_)
  · have hf := ift hc12 hf
    cases hf
    exact z_weak [2] rfl (hx0 _ hk)
  · have hf := iff' hc12 hf
    refine z_aload_n X dX2_itemsOf_15 0 rfl ?_
    refine z_iload_n X dX2_itemsOf_16 3 rfl ?_
    refine z_iload_n X dX2_itemsOf_17 1 rfl ?_
    obtain ⟨r18, hr18, hf⟩ := obE hf
    refine y_V1 X cv_RX2_33 dX2_itemsOf_18 g1 (c_Ch_row d (Nat.zero_le _) l0 l3 l1 h r18 hr18) (as := [(0, l3), (0, l1)]) rfl rfl (Nat.le_of_ble_eq_true rfl) z00 ?_
    refine z_istore X dX2_itemsOf_21 (by decide) (ls' := [(4, (0, r18)), (0, (2, l0)), (1, (0, l1)), (2, (0, l2)), (3, (0, l3))]) rfl ?_
    refine z_iconst X dX2_itemsOf_23 kc_0 ?_
    refine z_istore X dX2_itemsOf_24 (by decide) (ls' := [(5, (0, 0)), (4, (0, r18)), (0, (2, l0)), (1, (0, l1)), (2, (0, l2)), (3, (0, l3))]) rfl ?_
    obtain ⟨q26, hq26, hf⟩ := obE hf
    have hx26_0 : ∀ e70 : Int, (e70 : Int) = q26 → ZV g x 6 h 70 [(0, (2, l0)), (1, (0, l1)), (2, (0, e70)), (3, (0, l3))] [] := by
      intro e70 hq
      subst hq
      refine z_iinc X dX2_itemsOf_70 3 rfl (by decide) (ls' := [(3, (0, w32 (l3 + 1))), (0, (2, l0)), (1, (0, l1)), (2, (0, e70))]) rfl ?_
      refine z_goto X dX2_itemsOf_73 rfl ?_
      cases hf
      exact z_weak [1, 2, 3, 0] rfl hk
    exact z_weak [2, 3, 4, 5, 1, 0] rfl (z_loop (Z := (fun q : Int × Int => ZV g x 6 h 26 [(0, (2, l0)), (1, (0, l1)), (2, (0, q.1)), (3, (0, l3)), (4, (0, r18)), (5, (0, q.2))] [])) (E := fun q => q = q26) (fun q y hb hk => z_Ch_itemsOf_L26 X hd l0 l1 l3 r18 h (fun q => q = q26) hx26_0 q.1 q.2 y hb hk) LN (l2, 0) q26 hq26 rfl)
set_option maxHeartbeats 4000000 in
set_option maxRecDepth 100000 in
theorem c_Ch_itemsOf {l : Launch} {g : GP} (d : Nat) (hd : 1 ≤ d) (l0 l1 : Int) (h : Hp) (y : Int) (hf : Ch_itemsOf l0 l1 h = some y) : zM l yX2_itemsOf cX2_itemsOf 6 (some .int) d 0 0 g 157 h [(2, l0), (0, l1)] 157 h (some (0, y)) := by
  obtain ⟨d, rfl⟩ : ∃ k, d = k + 1 := ⟨d - 1, by omega⟩
  replace hd : 0 ≤ d := Nat.le_of_succ_le_succ hd
  refine z_start (by decide) (Nat.le_of_ble_eq_true rfl) (fun x X hK _ _ _ hl => ?_)
  show ZV g x 6 h 0 [(0, (2, l0)), (1, (0, l1))] []
  unfold Ch_itemsOf at hf
  refine z_iconst X dX2_itemsOf_0 kc_0 ?_
  refine z_istore_n X dX2_itemsOf_1 (by decide) (ls' := [(2, (0, 0)), (0, (2, l0)), (1, (0, l1))]) rfl ?_
  refine z_iconst X dX2_itemsOf_2 kc_0 ?_
  refine z_istore_n X dX2_itemsOf_3 (by decide) (ls' := [(3, (0, 0)), (2, (0, 0)), (0, (2, l0)), (1, (0, l1))]) rfl ?_
  obtain ⟨q4, hq4, hf⟩ := obE hf
  have hx4_0 : ∀ e76 : Int, (e76 : Int) = q4 → ZV g x 6 h 76 [(2, (0, e76))] [] := by
    intro e76 hq
    subst hq
    refine z_iload_n X dX2_itemsOf_76 0 rfl ?_
    cases hf
    exact z_iret X hK dX2_itemsOf_77
  exact z_weak [2, 3, 1, 0] rfl (z_loop (Z := (fun q : Int × Int => ZV g x 6 h 4 [(0, (2, l0)), (1, (0, l1)), (2, (0, q.1)), (3, (0, q.2))] [])) (E := fun q => q = q4) (fun q y hb hk => z_Ch_itemsOf_L4 X hd l0 l1 h (fun q => q = q4) hx4_0 q.1 q.2 y hb hk) LN (0, 0) q4 hq4 rfl)
set_option maxHeartbeats 4000000 in
set_option maxRecDepth 100000 in
theorem z_JA_fillI_L5 {g : GP} {x : CX} {d : Nat} (X : zX g x RJ7 cJ7_fill_53178 4 d) (l0 l1 l3 : Int)  (E : Hp → Prop) (hx0 : ∀ e : Hp, E (e) → ZV g x 4 e 20 [] []) (l2 : Int) (h : Hp) (y : (Int × Hp) ⊕ (Hp)) (hf : JA_fillI_L5 l0 l1 l3 l2 h = some y) (hk : z_sum (fun q : Int × Hp => ZV g x 4 q.2 5 [(0, (2, l0)), (1, (0, l1)), (2, (0, q.1)), (3, (0, l3))] []) E y) : ZV g x 4 h 5 [(0, (2, l0)), (1, (0, l1)), (2, (0, l2)), (3, (0, l3))] [] := by
  unfold JA_fillI_L5 at hf
  refine z_iload_n X dJ7_fill_53178_5 2 rfl ?_
  refine z_iload_n X dJ7_fill_53178_6 3 rfl ?_
  refine z_icmp_ge X dJ7_fill_53178_7 rfl (fun hc7 => ?_) (fun hc7 => ?_)
  · have hf := ift hc7 hf
    cases hf
    exact z_weak [] rfl (hx0 _ hk)
  · have hf := iff' hc7 hf
    refine z_aload_n X dJ7_fill_53178_10 0 rfl ?_
    refine z_iload_n X dJ7_fill_53178_11 2 rfl ?_
    refine z_iload_n X dJ7_fill_53178_12 1 rfl ?_
    obtain ⟨g2, hf⟩ := gif hf
    refine y_iast X dJ7_fill_53178_13 g2 ?_
    let h_1 : Hp := hput h l0 l2 l1
    refine z_iinc X dJ7_fill_53178_14 2 rfl (by decide) (ls' := [(2, (0, w32 (l2 + 1))), (0, (2, l0)), (1, (0, l1)), (3, (0, l3))]) rfl ?_
    refine z_goto X dJ7_fill_53178_17 rfl ?_
    cases hf
    exact z_weak [1, 2, 0, 3] rfl hk
set_option maxHeartbeats 4000000 in
set_option maxRecDepth 100000 in
theorem c_JA_fillI {l : Launch} {g : GP} (d : Nat) (hd : 0 ≤ d) (l0 l1 : Int) (h : Hp) (y : Hp) (hf : JA_fillI l0 l1 h = some y) : zM l yJ7_fill_53178 cJ7_fill_53178 4 none d 0 0 g 157 h [(2, l0), (0, l1)] 157 y none := by
  refine z_start (by decide) (Nat.le_of_ble_eq_true rfl) (fun x X hK _ _ _ hl => ?_)
  show ZV g x 4 h 0 [(0, (2, l0)), (1, (0, l1))] []
  unfold JA_fillI at hf
  refine z_iconst X dJ7_fill_53178_0 kc_0 ?_
  refine z_istore_n X dJ7_fill_53178_1 (by decide) (ls' := [(2, (0, 0)), (0, (2, l0)), (1, (0, l1))]) rfl ?_
  refine z_aload_n X dJ7_fill_53178_2 1 rfl ?_
  obtain ⟨g1, hf⟩ := gif hf
  refine y_alen X dJ7_fill_53178_3 (by omega) ?_
  refine z_istore_n X dJ7_fill_53178_4 (by decide) (ls' := [(3, (0, kL l0)), (2, (0, 0)), (0, (2, l0)), (1, (0, l1))]) rfl ?_
  obtain ⟨q5, hq5, hf⟩ := obE hf
  have hx5_0 : ∀ e20 : Hp, (e20 : Hp) = q5 → ZV g x 4 e20 20 [] [] := by
    intro e20 hq
    subst hq
    cases hf
    exact z_vret X hK dJ7_fill_53178_20
  exact z_weak [2, 3, 1, 0] rfl (z_loop (Z := (fun q : Int × Hp => ZV g x 4 q.2 5 [(0, (2, l0)), (1, (0, l1)), (2, (0, q.1)), (3, (0, kL l0))] [])) (E := fun q => q = q5) (fun q y hb hk => z_JA_fillI_L5 X l0 l1 (kL l0) (fun q => q = q5) hx5_0 q.1 q.2 y hb hk) LN (0, h) q5 hq5 rfl)
set_option maxHeartbeats 4000000 in
set_option maxRecDepth 100000 in
theorem c_Gr_clear {l : Launch} {g : GP} (d : Nat) (hd : 1 ≤ d) (l0 : Int) (h : Hp) (y : Hp) (hf : Gr_clear l0 h = some y) : zM l yX4_clear cX4_clear 1 none d 0 0 g 157 h [(2, l0)] 157 y none := by
  obtain ⟨d, rfl⟩ : ∃ k, d = k + 1 := ⟨d - 1, by omega⟩
  replace hd : 0 ≤ d := Nat.le_of_succ_le_succ hd
  refine z_start (by decide) (Nat.le_of_ble_eq_true rfl) (fun x X hK _ _ _ hl => ?_)
  show ZV g x 1 h 0 [(0, (2, l0))] []
  unfold Gr_clear at hf
  refine z_aload_n X dX4_clear_0 0 rfl ?_
  refine z_iconst X dX4_clear_1 kc_0 ?_
  obtain ⟨g1, hf⟩ := gif hf
  refine y_put X fl_RX4_52 dX4_clear_2 g1 rfl (by decide) ?_
  let h_1 : Hp := hput h l0 0 0
  refine z_aload_n X dX4_clear_5 0 rfl ?_
  refine z_iconst X dX4_clear_6 kc_0 ?_
  refine y_put X fl_RX4_56 dX4_clear_7 g1 rfl (by decide) ?_
  let h_2 : Hp := hput h_1 l0 1 0
  refine z_aload_n X dX4_clear_10 0 rfl ?_
  refine z_iconst X dX4_clear_11 kc_0 ?_
  refine y_put X fl_RX4_59 dX4_clear_12 g1 rfl (by decide) ?_
  let h_3 : Hp := hput h_2 l0 2 0
  refine z_aload_n X dX4_clear_15 0 rfl ?_
  refine z_iconst X dX4_clear_16 kc_0 ?_
  refine y_put X fl_RX4_62 dX4_clear_17 g1 rfl (by decide) ?_
  let h_4 : Hp := hput h_3 l0 3 0
  refine z_aload_n X dX4_clear_20 0 rfl ?_
  refine z_iconst X dX4_clear_21 kc_0 ?_
  refine y_put X fl_RX4_65 dX4_clear_22 g1 rfl (by decide) ?_
  let h_5 : Hp := hput h_4 l0 4 0
  refine z_aload_n X dX4_clear_25 0 rfl ?_
  refine z_iconst X dX4_clear_26 kc_0 ?_
  refine y_put X fl_RX4_68 dX4_clear_27 g1 rfl (by decide) ?_
  let h_6 : Hp := hput h_5 l0 5 0
  refine z_aload_n X dX4_clear_30 0 rfl ?_
  refine y_get X fl_RX4_9 dX4_clear_31 g1 ?_
  refine z_iconst X dX4_clear_34 kc_0 ?_
  refine z_iconst X dX4_clear_35 kc_0 ?_
  obtain ⟨g2, hf⟩ := gif hf
  refine y_iast X dX4_clear_36 g2 ?_
  let h_7 : Hp := hput h_6 (h_6 l0 6) 0 0
  refine z_aload_n X dX4_clear_37 0 rfl ?_
  refine y_get X fl_RX4_46 dX4_clear_38 g1 ?_
  refine z_iconst X dX4_clear_41 kc_0 ?_
  obtain ⟨r42, hr42, hf⟩ := obE hf
  refine y_S0 X cs_RX4_71 dX4_clear_42 (c_JA_fillI d (Nat.zero_le _) (h_7 l0 17) 0 h_7 r42 hr42) (as := [(2, h_7 l0 17), (0, 0)]) rfl rfl (Nat.le_of_ble_eq_true rfl) z00 ?_
  refine z_aload_n X dX4_clear_45 0 rfl ?_
  refine y_get X fl_RX4_49 dX4_clear_46 g1 ?_
  refine z_iconst X dX4_clear_49 kc_0 ?_
  obtain ⟨r50, hr50, hf⟩ := obE hf
  refine y_S0 X cs_RX4_71 dX4_clear_50 (c_JA_fillI d (Nat.zero_le _) (r42 l0 18) 0 r42 r50 hr50) (as := [(2, r42 l0 18), (0, 0)]) rfl rfl (Nat.le_of_ble_eq_true rfl) z00 ?_
  cases hf
  exact z_vret X hK dX4_clear_53
set_option maxHeartbeats 4000000 in
set_option maxRecDepth 100000 in
theorem z_Gr_hasTree_j16 {g : GP} {x : CX} {d : Nat} (X : zX g x RX4 cX4_hasTree 2 d) (h : Hp) (y : Int) (hf : Gr_hasTree_j16 h = some y) (hK : zE g x (some .boolean) 0 0 157 h (some (0, y))) : ZV g x 2 h 16 [] [] := by
  unfold Gr_hasTree_j16 at hf
  refine z_iconst X dX4_hasTree_16 kc_0 ?_
  cases hf
  exact z_zret X hK (Or.inl rfl) dX4_hasTree_17
set_option maxHeartbeats 4000000 in
set_option maxRecDepth 100000 in
theorem c_Gr_hasTree {l : Launch} {g : GP} (d : Nat) (hd : 0 ≤ d) (l0 l1 : Int) (h : Hp) (y : Int) (hf : Gr_hasTree l0 l1 h = some y) : zM l yX4_hasTree cX4_hasTree 2 (some .boolean) d 0 0 g 157 h [(2, l0), (0, l1)] 157 h (some (0, y)) := by
  refine z_start (by decide) (Nat.le_of_ble_eq_true rfl) (fun x X hK _ _ _ hl => ?_)
  show ZV g x 2 h 0 [(0, (2, l0)), (1, (0, l1))] []
  unfold Gr_hasTree at hf
  refine z_iload_n X dX4_hasTree_0 1 rfl ?_
  refine z_if_lt X dX4_hasTree_1 rfl (fun hc1 => ?_) (fun hc1 => ?_)
  · have hf := ift hc1 hf
    exact z_weak [] rfl (z_Gr_hasTree_j16 X  h _ hf hK)
  · have hf := iff' hc1 hf
    refine z_iload_n X dX4_hasTree_4 1 rfl ?_
    refine z_aload_n X dX4_hasTree_5 0 rfl ?_
    obtain ⟨g1, hf⟩ := gif hf
    refine y_get X fl_RX4_52 dX4_hasTree_6 g1 ?_
    refine z_icmp_ge X dX4_hasTree_9 rfl (fun hc9 => ?_) (fun hc9 => ?_)
    · have hf := ift hc9 hf
      exact z_weak [] rfl (z_Gr_hasTree_j16 X  h _ hf hK)
    · have hf := iff' hc9 hf
      refine z_iconst X dX4_hasTree_12 kc_1 ?_
      refine z_goto X dX4_hasTree_13 rfl ?_
      cases hf
      exact z_zret X hK (Or.inr rfl) dX4_hasTree_17
set_option maxHeartbeats 4000000 in
set_option maxRecDepth 100000 in
theorem c_Gr_sizeOf {l : Launch} {g : GP} (d : Nat) (hd : 0 ≤ d) (l0 l1 : Int) (h : Hp) (y : Int) (hf : Gr_sizeOf l0 l1 h = some y) : zM l yX4_sizeOf cX4_sizeOf 2 (some .int) d 0 0 g 157 h [(2, l0), (0, l1)] 157 h (some (0, y)) := by
  refine z_start (by decide) (Nat.le_of_ble_eq_true rfl) (fun x X hK _ _ _ hl => ?_)
  show ZV g x 2 h 0 [(0, (2, l0)), (1, (0, l1))] []
  unfold Gr_sizeOf at hf
  refine z_aload_n X dX4_sizeOf_0 0 rfl ?_
  obtain ⟨g1, hf⟩ := gif hf
  refine y_get X fl_RX4_9 dX4_sizeOf_1 g1 ?_
  refine z_iload_n X dX4_sizeOf_4 1 rfl ?_
  refine z_iconst X dX4_sizeOf_5 kc_1 ?_
  refine z_iadd X dX4_sizeOf_6 ?_
  obtain ⟨g2, hf⟩ := gif hf
  refine y_iald X dX4_sizeOf_7 g2 ?_
  refine z_aload_n X dX4_sizeOf_8 0 rfl ?_
  refine y_get X fl_RX4_9 dX4_sizeOf_9 g1 ?_
  refine z_iload_n X dX4_sizeOf_12 1 rfl ?_
  obtain ⟨g3, hf⟩ := gif hf
  refine y_iald X dX4_sizeOf_13 g3 ?_
  refine z_isub X dX4_sizeOf_14 ?_
  cases hf
  exact z_iret X hK dX4_sizeOf_15
set_option maxHeartbeats 4000000 in
set_option maxRecDepth 100000 in
theorem z_Gr_hasNode_j25 {g : GP} {x : CX} {d : Nat} (X : zX g x RX4 cX4_hasNode 3 (d + 1)) (hd : 0 ≤ d) (h : Hp) (y : Int) (hf : Gr_hasNode_j25 h = some y) (hK : zE g x (some .boolean) 0 0 157 h (some (0, y))) : ZV g x 3 h 25 [] [] := by
  unfold Gr_hasNode_j25 at hf
  refine z_iconst X dX4_hasNode_25 kc_0 ?_
  cases hf
  exact z_zret X hK (Or.inl rfl) dX4_hasNode_26
set_option maxHeartbeats 4000000 in
set_option maxRecDepth 100000 in
theorem c_Gr_hasNode {l : Launch} {g : GP} (d : Nat) (hd : 1 ≤ d) (l0 l1 l2 : Int) (h : Hp) (y : Int) (hf : Gr_hasNode l0 l1 l2 h = some y) : zM l yX4_hasNode cX4_hasNode 3 (some .boolean) d 0 0 g 157 h [(2, l0), (0, l1), (0, l2)] 157 h (some (0, y)) := by
  obtain ⟨d, rfl⟩ : ∃ k, d = k + 1 := ⟨d - 1, by omega⟩
  replace hd : 0 ≤ d := Nat.le_of_succ_le_succ hd
  refine z_start (by decide) (Nat.le_of_ble_eq_true rfl) (fun x X hK _ _ _ hl => ?_)
  show ZV g x 3 h 0 [(0, (2, l0)), (1, (0, l1)), (2, (0, l2))] []
  unfold Gr_hasNode at hf
  refine z_aload_n X dX4_hasNode_0 0 rfl ?_
  refine z_iload_n X dX4_hasNode_1 1 rfl ?_
  obtain ⟨g1, hf⟩ := gif hf
  obtain ⟨r2, hr2, hf⟩ := obE hf
  refine y_V1 X cv_RX4_77 dX4_hasNode_2 g1 (c_Gr_hasTree d (Nat.zero_le _) l0 l1 h r2 hr2) (as := [(0, l1)]) rfl rfl (Nat.le_of_ble_eq_true rfl) z00 ?_
  refine z_if_eq X dX4_hasNode_5 rfl (fun hc5 => ?_) (fun hc5 => ?_)
  · have hf := ift hc5 hf
    exact z_weak [] rfl (z_Gr_hasNode_j25 X hd  h _ hf hK)
  · have hf := iff' hc5 hf
    refine z_iload_n X dX4_hasNode_8 2 rfl ?_
    refine z_if_lt X dX4_hasNode_9 rfl (fun hc9 => ?_) (fun hc9 => ?_)
    · have hf := ift hc9 hf
      exact z_weak [] rfl (z_Gr_hasNode_j25 X hd  h _ hf hK)
    · have hf := iff' hc9 hf
      refine z_iload_n X dX4_hasNode_12 2 rfl ?_
      refine z_aload_n X dX4_hasNode_13 0 rfl ?_
      refine z_iload_n X dX4_hasNode_14 1 rfl ?_
      obtain ⟨r15, hr15, hf⟩ := obE hf
      refine y_V1 X cv_RX4_81 dX4_hasNode_15 g1 (c_Gr_sizeOf d (Nat.zero_le _) l0 l1 h r15 hr15) (as := [(0, l1)]) rfl rfl (Nat.le_of_ble_eq_true rfl) z00 ?_
      refine z_icmp_ge X dX4_hasNode_18 rfl (fun hc18 => ?_) (fun hc18 => ?_)
      · have hf := ift hc18 hf
        exact z_weak [] rfl (z_Gr_hasNode_j25 X hd  h _ hf hK)
      · have hf := iff' hc18 hf
        refine z_iconst X dX4_hasNode_21 kc_1 ?_
        refine z_goto X dX4_hasNode_22 rfl ?_
        cases hf
        exact z_zret X hK (Or.inr rfl) dX4_hasNode_26
set_option maxHeartbeats 4000000 in
set_option maxRecDepth 100000 in
theorem c_Gr_startLabel {l : Launch} {g : GP} (d : Nat) (hd : 0 ≤ d) (l0 : Int) (h : Hp) (y : Int) (hf : Gr_startLabel l0 h = some y) : zM l yX4_startLabel cX4_startLabel 1 (some .int) d 0 0 g 157 h [(2, l0)] 157 h (some (0, y)) := by
  refine z_start (by decide) (Nat.le_of_ble_eq_true rfl) (fun x X hK _ _ _ hl => ?_)
  show ZV g x 1 h 0 [(0, (2, l0))] []
  unfold Gr_startLabel at hf
  refine z_aload_n X dX4_startLabel_0 0 rfl ?_
  obtain ⟨g1, hf⟩ := gif hf
  refine y_get X fl_RX4_52 dX4_startLabel_1 g1 ?_
  refine z_if_ne X dX4_startLabel_4 rfl (fun hc4 => ?_) (fun hc4 => ?_)
  · have hf := iff' hc4 hf
    refine z_aload_n X dX4_startLabel_11 0 rfl ?_
    refine y_get X fl_RX4_21 dX4_startLabel_12 g1 ?_
    refine z_iconst X dX4_startLabel_15 kc_0 ?_
    obtain ⟨g2, hf⟩ := gif hf
    refine y_iald X dX4_startLabel_16 g2 ?_
    cases hf
    exact z_iret X hK dX4_startLabel_17
  · have hf := ift hc4 hf
    refine z_iconst X dX4_startLabel_7 kc_m1 ?_
    refine z_goto X dX4_startLabel_8 rfl ?_
    cases hf
    exact z_iret X hK dX4_startLabel_17
set_option maxHeartbeats 4000000 in
set_option maxRecDepth 100000 in
theorem z_Gr_firstOfKind_L7 {g : GP} {x : CX} {d : Nat} (X : zX g x RX4 cX4_firstOfKind 4 d) (l0 l1 l2 : Int) (h : Hp) (E : (Int) ⊕ (Unit) → Prop) (hx0 : ∀ e : Int, E (.inl e) → ZV g x 4 h 29 [(0, (2, l0)), (1, (0, l1)), (3, (0, e))] []) (hx1 : ∀ e : Unit, E (.inr e) → ZV g x 4 h 44 [] []) (l3 : Int) (y : (Int) ⊕ ((Int) ⊕ (Unit))) (hf : Gr_firstOfKind_L7 l0 l1 l2 h l3 = some y) (hk : z_sum (fun q : Int => ZV g x 4 h 7 [(0, (2, l0)), (1, (0, l1)), (2, (0, l2)), (3, (0, q))] []) E y) : ZV g x 4 h 7 [(0, (2, l0)), (1, (0, l1)), (2, (0, l2)), (3, (0, l3))] [] := by
  unfold Gr_firstOfKind_L7 at hf
  refine z_iload_n X dX4_firstOfKind_7 3 rfl ?_
  refine z_aload_n X dX4_firstOfKind_8 0 rfl ?_
  obtain ⟨g3, hf⟩ := gif hf
  refine y_get X fl_RX4_9 dX4_firstOfKind_9 g3 ?_
  refine z_iload_n X dX4_firstOfKind_12 1 rfl ?_
  refine z_iconst X dX4_firstOfKind_13 kc_1 ?_
  refine z_iadd X dX4_firstOfKind_14 ?_
  obtain ⟨g4, hf⟩ := gif hf
  refine y_iald X dX4_firstOfKind_15 g4 ?_
  refine z_icmp_ge X dX4_firstOfKind_16 rfl (fun hc16 => ?_) (fun hc16 => ?_)
  · have hf := ift hc16 hf
    cases hf
    exact z_weak [] rfl (hx1 _ hk)
  · have hf := iff' hc16 hf
    refine z_aload_n X dX4_firstOfKind_19 0 rfl ?_
    refine y_get X fl_RX4_18 dX4_firstOfKind_20 g3 ?_
    refine z_iload_n X dX4_firstOfKind_23 3 rfl ?_
    obtain ⟨g5, hf⟩ := gif hf
    refine y_iald X dX4_firstOfKind_24 g5 ?_
    refine z_iload_n X dX4_firstOfKind_25 2 rfl ?_
    refine z_icmp_ne X dX4_firstOfKind_26 rfl (fun hc26 => ?_) (fun hc26 => ?_)
    · have hf := iff' hc26 hf
      refine z_iinc X dX4_firstOfKind_38 3 rfl (by decide) (ls' := [(3, (0, w32 (l3 + 1))), (0, (2, l0)), (1, (0, l1)), (2, (0, l2))]) rfl ?_
      refine z_goto X dX4_firstOfKind_41 rfl ?_
      cases hf
      exact z_weak [1, 2, 3, 0] rfl hk
    · have hf := ift hc26 hf
      cases hf
      exact z_weak [0, 1, 3] rfl (hx0 _ hk)
set_option maxHeartbeats 4000000 in
set_option maxRecDepth 100000 in
theorem c_Gr_firstOfKind {l : Launch} {g : GP} (d : Nat) (hd : 0 ≤ d) (l0 l1 l2 : Int) (h : Hp) (y : Int) (hf : Gr_firstOfKind l0 l1 l2 h = some y) : zM l yX4_firstOfKind cX4_firstOfKind 4 (some .int) d 0 0 g 157 h [(2, l0), (0, l1), (0, l2)] 157 h (some (0, y)) := by
  refine z_start (by decide) (Nat.le_of_ble_eq_true rfl) (fun x X hK _ _ _ hl => ?_)
  show ZV g x 4 h 0 [(0, (2, l0)), (1, (0, l1)), (2, (0, l2))] []
  unfold Gr_firstOfKind at hf
  refine z_aload_n X dX4_firstOfKind_0 0 rfl ?_
  obtain ⟨g1, hf⟩ := gif hf
  refine y_get X fl_RX4_9 dX4_firstOfKind_1 g1 ?_
  refine z_iload_n X dX4_firstOfKind_4 1 rfl ?_
  obtain ⟨g2, hf⟩ := gif hf
  refine y_iald X dX4_firstOfKind_5 g2 ?_
  refine z_istore_n X dX4_firstOfKind_6 (by decide) (ls' := [(3, (0, h (h l0 6) l1)), (0, (2, l0)), (1, (0, l1)), (2, (0, l2))]) rfl ?_
  obtain ⟨q7, hq7, hf⟩ := obE hf
  have hx7_0 : ∀ e29 : Int, (.inl e29 : (Int) ⊕ (Unit)) = q7 → ZV g x 4 h 29 [(0, (2, l0)), (1, (0, l1)), (3, (0, e29))] [] := by
    intro e29 hq
    subst hq
    dsimp only at hf
    refine z_iload_n X dX4_firstOfKind_29 2 rfl ?_
    refine z_aload_n X dX4_firstOfKind_30 0 rfl ?_
    refine y_get X fl_RX4_9 dX4_firstOfKind_31 g1 ?_
    refine z_iload_n X dX4_firstOfKind_34 1 rfl ?_
    refine y_iald X dX4_firstOfKind_35 g2 ?_
    refine z_isub X dX4_firstOfKind_36 ?_
    cases hf
    exact z_iret X hK dX4_firstOfKind_37
  have hx7_1 : ∀ e44 : Unit, (.inr e44 : (Int) ⊕ (Unit)) = q7 → ZV g x 4 h 44 [] [] := by
    intro e44 hq
    subst hq
    dsimp only at hf
    refine z_iconst X dX4_firstOfKind_44 kc_m1 ?_
    cases hf
    exact z_iret X hK dX4_firstOfKind_45
  exact z_weak [1, 2, 3, 0] rfl (z_loop (Z := (fun q : Int => ZV g x 4 h 7 [(0, (2, l0)), (1, (0, l1)), (2, (0, l2)), (3, (0, q))] [])) (E := fun q => q = q7) (fun q y hb hk => z_Gr_firstOfKind_L7 X l0 l1 l2 h (fun q => q = q7) hx7_0 hx7_1 q y hb hk) LN (h (h l0 6) l1) q7 hq7 rfl)
set_option maxHeartbeats 4000000 in
set_option maxRecDepth 100000 in
theorem z_Gr_placesOf_j34 {g : GP} {x : CX} {d : Nat} (X : zX g x RX4 cX4_placesOf 4 d) (l0 l1 l2 l3 : Int) (h : Hp) (y : (Int × Int) ⊕ (Int)) (hf : Gr_placesOf_j34 l0 l1 l2 l3 h = some y) (E : Int → Prop) (hx0 : ∀ e : Int, E (e) → ZV g x 4 h 40 [(2, (0, e))] []) (hk : z_sum (fun q : Int × Int => ZV g x 4 h 9 [(0, (2, l0)), (1, (0, l1)), (2, (0, q.1)), (3, (0, q.2))] []) E y) : ZV g x 4 h 34 [(0, (2, l0)), (1, (0, l1)), (2, (0, l2)), (3, (0, l3))] [] := by
  unfold Gr_placesOf_j34 at hf
  refine z_iinc X dX4_placesOf_34 3 rfl (by decide) (ls' := [(3, (0, w32 (l3 + 1))), (0, (2, l0)), (1, (0, l1)), (2, (0, l2))]) rfl ?_
  refine z_goto X dX4_placesOf_37 rfl ?_
  cases hf
  exact z_weak [1, 2, 3, 0] rfl hk
set_option maxHeartbeats 4000000 in
set_option maxRecDepth 100000 in
theorem z_Gr_placesOf_L9 {g : GP} {x : CX} {d : Nat} (X : zX g x RX4 cX4_placesOf 4 d) (l0 l1 : Int) (h : Hp) (E : Int → Prop) (hx0 : ∀ e : Int, E (e) → ZV g x 4 h 40 [(2, (0, e))] []) (l2 l3 : Int) (y : (Int × Int) ⊕ (Int)) (hf : Gr_placesOf_L9 l0 l1 h l2 l3 = some y) (hk : z_sum (fun q : Int × Int => ZV g x 4 h 9 [(0, (2, l0)), (1, (0, l1)), (2, (0, q.1)), (3, (0, q.2))] []) E y) : ZV g x 4 h 9 [(0, (2, l0)), (1, (0, l1)), (2, (0, l2)), (3, (0, l3))] [] := by
  unfold Gr_placesOf_L9 at hf
  refine z_iload_n X dX4_placesOf_9 3 rfl ?_
  refine z_aload_n X dX4_placesOf_10 0 rfl ?_
  obtain ⟨g3, hf⟩ := gif hf
  refine y_get X fl_RX4_9 dX4_placesOf_11 g3 ?_
  refine z_iload_n X dX4_placesOf_14 1 rfl ?_
  refine z_iconst X dX4_placesOf_15 kc_1 ?_
  refine z_iadd X dX4_placesOf_16 ?_
  obtain ⟨g4, hf⟩ := gif hf
  refine y_iald X dX4_placesOf_17 g4 ?_
  refine z_icmp_ge X dX4_placesOf_18 rfl (fun hc18 => ?_) (fun hc18 => ?_)
  · have hf := ift hc18 hf
    cases hf
    exact z_weak [2] rfl (hx0 _ hk)
  · have hf := iff' hc18 hf
    refine z_aload_n X dX4_placesOf_21 0 rfl ?_
    refine y_get X fl_RX4_18 dX4_placesOf_22 g3 ?_
    refine z_iload_n X dX4_placesOf_25 3 rfl ?_
    obtain ⟨g5, hf⟩ := gif hf
    refine y_iald X dX4_placesOf_26 g5 ?_
    refine z_iconst X dX4_placesOf_27 kc_4 ?_
    refine z_icmp_ne X dX4_placesOf_28 rfl (fun hc28 => ?_) (fun hc28 => ?_)
    · rw [if_neg hc28] at hf
      exact (z_Gr_placesOf_j34 X l0 l1 l2 l3 h _ hf E hx0 hk)
    · rw [if_pos hc28] at hf
      refine z_iinc X dX4_placesOf_31 2 rfl (by decide) (ls' := [(2, (0, w32 (l2 + 1))), (0, (2, l0)), (1, (0, l1)), (3, (0, l3))]) rfl ?_
      exact z_weak [1, 2, 0, 3] rfl (z_Gr_placesOf_j34 X l0 l1 (w32 (l2 + 1)) l3 h _ hf E hx0 hk)
set_option maxHeartbeats 4000000 in
set_option maxRecDepth 100000 in
theorem c_Gr_placesOf {l : Launch} {g : GP} (d : Nat) (hd : 0 ≤ d) (l0 l1 : Int) (h : Hp) (y : Int) (hf : Gr_placesOf l0 l1 h = some y) : zM l yX4_placesOf cX4_placesOf 4 (some .int) d 0 0 g 157 h [(2, l0), (0, l1)] 157 h (some (0, y)) := by
  refine z_start (by decide) (Nat.le_of_ble_eq_true rfl) (fun x X hK _ _ _ hl => ?_)
  show ZV g x 4 h 0 [(0, (2, l0)), (1, (0, l1))] []
  unfold Gr_placesOf at hf
  refine z_iconst X dX4_placesOf_0 kc_0 ?_
  refine z_istore_n X dX4_placesOf_1 (by decide) (ls' := [(2, (0, 0)), (0, (2, l0)), (1, (0, l1))]) rfl ?_
  refine z_aload_n X dX4_placesOf_2 1 rfl ?_
  obtain ⟨g1, hf⟩ := gif hf
  refine y_get X fl_RX4_9 dX4_placesOf_3 g1 ?_
  refine z_iload_n X dX4_placesOf_6 2 rfl ?_
  obtain ⟨g2, hf⟩ := gif hf
  refine y_iald X dX4_placesOf_7 g2 ?_
  refine z_istore_n X dX4_placesOf_8 (by decide) (ls' := [(3, (0, h (h l0 6) l1)), (2, (0, 0)), (0, (2, l0)), (1, (0, l1))]) rfl ?_
  obtain ⟨q9, hq9, hf⟩ := obE hf
  have hx9_0 : ∀ e40 : Int, (e40 : Int) = q9 → ZV g x 4 h 40 [(2, (0, e40))] [] := by
    intro e40 hq
    subst hq
    refine z_iload_n X dX4_placesOf_40 0 rfl ?_
    cases hf
    exact z_iret X hK dX4_placesOf_41
  exact z_weak [2, 3, 1, 0] rfl (z_loop (Z := (fun q : Int × Int => ZV g x 4 h 9 [(0, (2, l0)), (1, (0, l1)), (2, (0, q.1)), (3, (0, q.2))] [])) (E := fun q => q = q9) (fun q y hb hk => z_Gr_placesOf_L9 X l0 l1 h (fun q => q = q9) hx9_0 q.1 q.2 y hb hk) LN (0, h (h l0 6) l1) q9 hq9 rfl)
set_option maxHeartbeats 4000000 in
set_option maxRecDepth 100000 in
theorem c_Gr_openTree {l : Launch} {g : GP} (d : Nat) (hd : 0 ≤ d) (l0 : Int) (h : Hp) (y : Hp) (hf : Gr_openTree l0 h = some y) : zM l yX4_openTree cX4_openTree 1 none d 0 0 g 157 h [(2, l0)] 157 y none := by
  refine z_start (by decide) (Nat.le_of_ble_eq_true rfl) (fun x X hK _ _ _ hl => ?_)
  show ZV g x 1 h 0 [(0, (2, l0))] []
  unfold Gr_openTree at hf
  refine z_aload_n X dX4_openTree_0 0 rfl ?_
  refine z_dup X ne2 dX4_openTree_1 ?_
  obtain ⟨g1, hf⟩ := gif hf
  refine y_get X fl_RX4_52 dX4_openTree_2 g1 ?_
  refine z_iconst X dX4_openTree_5 kc_1 ?_
  refine z_iadd X dX4_openTree_6 ?_
  refine y_put X fl_RX4_52 dX4_openTree_7 g1 rfl (by decide) ?_
  let h_1 : Hp := hput h l0 0 (w32 ((h l0 0) + 1))
  refine z_aload_n X dX4_openTree_10 0 rfl ?_
  refine y_get X fl_RX4_9 dX4_openTree_11 g1 ?_
  refine z_aload_n X dX4_openTree_14 0 rfl ?_
  refine y_get X fl_RX4_52 dX4_openTree_15 g1 ?_
  refine z_aload_n X dX4_openTree_18 0 rfl ?_
  refine y_get X fl_RX4_56 dX4_openTree_19 g1 ?_
  obtain ⟨g2, hf⟩ := gif hf
  refine y_iast X dX4_openTree_22 g2 ?_
  let h_2 : Hp := hput h_1 (h_1 l0 6) (h_1 l0 0) (h_1 l0 1)
  cases hf
  exact z_vret X hK dX4_openTree_23
set_option maxHeartbeats 4000000 in
set_option maxRecDepth 100000 in
theorem z_Gr_hasRoomForNode_j34 {g : GP} {x : CX} {d : Nat} (X : zX g x RX4 cX4_hasRoomForNode 1 d) (h : Hp) (y : Int) (hf : Gr_hasRoomForNode_j34 h = some y) (hK : zE g x (some .boolean) 0 0 157 h (some (0, y))) : ZV g x 1 h 34 [] [] := by
  unfold Gr_hasRoomForNode_j34 at hf
  refine z_iconst X dX4_hasRoomForNode_34 kc_0 ?_
  cases hf
  exact z_zret X hK (Or.inl rfl) dX4_hasRoomForNode_35
set_option maxHeartbeats 4000000 in
set_option maxRecDepth 100000 in
theorem c_Gr_hasRoomForNode {l : Launch} {g : GP} (d : Nat) (hd : 0 ≤ d) (l0 : Int) (h : Hp) (y : Int) (hf : Gr_hasRoomForNode l0 h = some y) : zM l yX4_hasRoomForNode cX4_hasRoomForNode 1 (some .boolean) d 0 0 g 157 h [(2, l0)] 157 h (some (0, y)) := by
  refine z_start (by decide) (Nat.le_of_ble_eq_true rfl) (fun x X hK _ _ _ hl => ?_)
  show ZV g x 1 h 0 [(0, (2, l0))] []
  unfold Gr_hasRoomForNode at hf
  refine z_aload_n X dX4_hasRoomForNode_0 0 rfl ?_
  obtain ⟨g1, hf⟩ := gif hf
  refine y_get X fl_RX4_56 dX4_hasRoomForNode_1 g1 ?_
  refine z_bipush X dX4_hasRoomForNode_4 kb_40 kc_40 ?_
  refine z_icmp_ge X dX4_hasRoomForNode_6 rfl (fun hc6 => ?_) (fun hc6 => ?_)
  · have hf := ift hc6 hf
    exact z_weak [] rfl (z_Gr_hasRoomForNode_j34 X  h _ hf hK)
  · have hf := iff' hc6 hf
    refine z_aload_n X dX4_hasRoomForNode_9 0 rfl ?_
    refine y_get X fl_RX4_56 dX4_hasRoomForNode_10 g1 ?_
    refine z_aload_n X dX4_hasRoomForNode_13 0 rfl ?_
    refine y_get X fl_RX4_9 dX4_hasRoomForNode_14 g1 ?_
    refine z_aload_n X dX4_hasRoomForNode_17 0 rfl ?_
    refine y_get X fl_RX4_52 dX4_hasRoomForNode_18 g1 ?_
    refine z_iconst X dX4_hasRoomForNode_21 kc_1 ?_
    refine z_isub X dX4_hasRoomForNode_22 ?_
    obtain ⟨g2, hf⟩ := gif hf
    refine y_iald X dX4_hasRoomForNode_23 g2 ?_
    refine z_isub X dX4_hasRoomForNode_24 ?_
    refine z_bipush X dX4_hasRoomForNode_25 kb_12 kc_12 ?_
    refine z_icmp_ge X dX4_hasRoomForNode_27 rfl (fun hc27 => ?_) (fun hc27 => ?_)
    · have hf := ift hc27 hf
      exact z_weak [] rfl (z_Gr_hasRoomForNode_j34 X  h _ hf hK)
    · have hf := iff' hc27 hf
      refine z_iconst X dX4_hasRoomForNode_30 kc_1 ?_
      refine z_goto X dX4_hasRoomForNode_31 rfl ?_
      cases hf
      exact z_zret X hK (Or.inr rfl) dX4_hasRoomForNode_35
set_option maxHeartbeats 4000000 in
set_option maxRecDepth 100000 in
theorem z_Gr_addNode_j132 {g : GP} {x : CX} {d : Nat} (X : zX g x RX4 cX4_addNode 5 d) (l0 l3 l4 : Int) (h : Hp) (y : Int × Hp) (hf : Gr_addNode_j132 l0 l3 l4 h = some y) (hK : zE g x (some .int) 0 0 157 y.2 (some (0, y.1))) : ZV g x 5 h 132 [(0, (2, l0)), (3, (0, l3)), (4, (0, l4))] [] := by
  unfold Gr_addNode_j132 at hf
  refine z_iload_n X dX4_addNode_132 1 rfl ?_
  refine z_iconst X dX4_addNode_133 kc_m1 ?_
  refine z_icmp_eq X dX4_addNode_134 rfl (fun hc134 => ?_) (fun hc134 => ?_)
  · have hf := ift hc134 hf
    refine z_iload X dX4_addNode_145 2 rfl ?_
    cases hf
    exact z_iret X hK dX4_addNode_147
  · have hf := iff' hc134 hf
    refine z_aload_n X dX4_addNode_137 0 rfl ?_
    obtain ⟨g12, hf⟩ := gif hf
    refine y_get X fl_RX4_30 dX4_addNode_138 g12 ?_
    refine z_iload_n X dX4_addNode_141 1 rfl ?_
    refine z_iload X dX4_addNode_142 2 rfl ?_
    obtain ⟨g13, hf⟩ := gif hf
    refine y_iast X dX4_addNode_144 g13 ?_
    let h_12 : Hp := hput h (h l0 12) l3 l4
    refine z_iload X dX4_addNode_145 2 rfl ?_
    cases hf
    exact z_iret X hK dX4_addNode_147
set_option maxHeartbeats 4000000 in
set_option maxRecDepth 100000 in
theorem c_Gr_addNode {l : Launch} {g : GP} (d : Nat) (hd : 0 ≤ d) (l0 l1 l2 l3 : Int) (h : Hp) (y : Int × Hp) (hf : Gr_addNode l0 l1 l2 l3 h = some y) : zM l yX4_addNode cX4_addNode 5 (some .int) d 0 0 g 157 h [(2, l0), (0, l1), (0, l2), (0, l3)] 157 y.2 (some (0, y.1)) := by
  refine z_start (by decide) (Nat.le_of_ble_eq_true rfl) (fun x X hK _ _ _ hl => ?_)
  show ZV g x 5 h 0 [(0, (2, l0)), (1, (0, l1)), (2, (0, l2)), (3, (0, l3))] []
  unfold Gr_addNode at hf
  refine z_aload_n X dX4_addNode_0 0 rfl ?_
  obtain ⟨g1, hf⟩ := gif hf
  refine y_get X fl_RX4_56 dX4_addNode_1 g1 ?_
  refine z_istore X dX4_addNode_4 (by decide) (ls' := [(4, (0, h l0 1)), (0, (2, l0)), (1, (0, l1)), (2, (0, l2)), (3, (0, l3))]) rfl ?_
  refine z_aload_n X dX4_addNode_6 1 rfl ?_
  refine z_dup X ne2 dX4_addNode_7 ?_
  refine y_get X fl_RX4_56 dX4_addNode_8 g1 ?_
  refine z_iconst X dX4_addNode_11 kc_1 ?_
  refine z_iadd X dX4_addNode_12 ?_
  refine y_put X fl_RX4_56 dX4_addNode_13 g1 rfl (by decide) ?_
  let h_1 : Hp := hput h l0 1 (w32 ((h l0 1) + 1))
  refine z_aload_n X dX4_addNode_16 1 rfl ?_
  refine y_get X fl_RX4_9 dX4_addNode_17 g1 ?_
  refine z_aload_n X dX4_addNode_20 1 rfl ?_
  refine y_get X fl_RX4_52 dX4_addNode_21 g1 ?_
  refine z_aload_n X dX4_addNode_24 1 rfl ?_
  refine y_get X fl_RX4_56 dX4_addNode_25 g1 ?_
  obtain ⟨g2, hf⟩ := gif hf
  refine y_iast X dX4_addNode_28 g2 ?_
  let h_2 : Hp := hput h_1 (h_1 l0 6) (h_1 l0 0) (h_1 l0 1)
  refine z_aload_n X dX4_addNode_29 1 rfl ?_
  refine y_get X fl_RX4_15 dX4_addNode_30 g1 ?_
  refine z_iload X dX4_addNode_33 0 rfl ?_
  refine z_aload_n X dX4_addNode_35 1 rfl ?_
  refine y_get X fl_RX4_52 dX4_addNode_36 g1 ?_
  refine z_iconst X dX4_addNode_39 kc_1 ?_
  refine z_isub X dX4_addNode_40 ?_
  obtain ⟨g3, hf⟩ := gif hf
  refine y_iast X dX4_addNode_41 g3 ?_
  let h_3 : Hp := hput h_2 (h_2 l0 7) (h l0 1) (w32 ((h_2 l0 0) - 1))
  refine z_aload_n X dX4_addNode_42 1 rfl ?_
  refine y_get X fl_RX4_18 dX4_addNode_43 g1 ?_
  refine z_iload X dX4_addNode_46 0 rfl ?_
  refine z_iload_n X dX4_addNode_48 2 rfl ?_
  obtain ⟨g4, hf⟩ := gif hf
  refine y_iast X dX4_addNode_49 g4 ?_
  let h_4 : Hp := hput h_3 (h_3 l0 8) (h l0 1) l1
  refine z_aload_n X dX4_addNode_50 1 rfl ?_
  refine y_get X fl_RX4_21 dX4_addNode_51 g1 ?_
  refine z_iload X dX4_addNode_54 0 rfl ?_
  refine z_iload_n X dX4_addNode_56 3 rfl ?_
  obtain ⟨g5, hf⟩ := gif hf
  refine y_iast X dX4_addNode_57 g5 ?_
  let h_5 : Hp := hput h_4 (h_4 l0 9) (h l0 1) l2
  refine z_aload_n X dX4_addNode_58 1 rfl ?_
  refine y_get X fl_RX4_24 dX4_addNode_59 g1 ?_
  refine z_iload X dX4_addNode_62 0 rfl ?_
  refine z_iconst X dX4_addNode_64 kc_0 ?_
  obtain ⟨g6, hf⟩ := gif hf
  refine y_iast X dX4_addNode_65 g6 ?_
  let h_6 : Hp := hput h_5 (h_5 l0 10) (h l0 1) 0
  refine z_aload_n X dX4_addNode_66 1 rfl ?_
  refine y_get X fl_RX4_27 dX4_addNode_67 g1 ?_
  refine z_iload X dX4_addNode_70 0 rfl ?_
  refine z_iconst X dX4_addNode_72 kc_m1 ?_
  obtain ⟨g7, hf⟩ := gif hf
  refine y_iast X dX4_addNode_73 g7 ?_
  let h_7 : Hp := hput h_6 (h_6 l0 11) (h l0 1) ((-1))
  refine z_aload_n X dX4_addNode_74 1 rfl ?_
  refine y_get X fl_RX4_30 dX4_addNode_75 g1 ?_
  refine z_iload X dX4_addNode_78 0 rfl ?_
  refine z_iconst X dX4_addNode_80 kc_m1 ?_
  obtain ⟨g8, hf⟩ := gif hf
  refine y_iast X dX4_addNode_81 g8 ?_
  let h_8 : Hp := hput h_7 (h_7 l0 12) (h l0 1) ((-1))
  refine z_aload_n X dX4_addNode_82 1 rfl ?_
  refine y_get X fl_RX4_33 dX4_addNode_83 g1 ?_
  refine z_iload X dX4_addNode_86 0 rfl ?_
  refine z_iload_n X dX4_addNode_88 4 rfl ?_
  obtain ⟨g9, hf⟩ := gif hf
  refine y_iast X dX4_addNode_89 g9 ?_
  let h_9 : Hp := hput h_8 (h_8 l0 13) (h l0 1) l3
  refine z_aload_n X dX4_addNode_90 1 rfl ?_
  refine y_get X fl_RX4_36 dX4_addNode_91 g1 ?_
  refine z_iload X dX4_addNode_94 0 rfl ?_
  refine z_iconst X dX4_addNode_96 kc_0 ?_
  obtain ⟨g10, hf⟩ := gif hf
  refine y_iast X dX4_addNode_97 g10 ?_
  let h_10 : Hp := hput h_9 (h_9 l0 14) (h l0 1) 0
  refine z_aload_n X dX4_addNode_98 1 rfl ?_
  refine y_get X fl_RX4_39 dX4_addNode_99 g1 ?_
  refine z_iload X dX4_addNode_102 0 rfl ?_
  refine z_iconst X dX4_addNode_104 kc_0 ?_
  obtain ⟨g11, hf⟩ := gif hf
  refine y_zast X dX4_addNode_105 g11 (Or.inl rfl) ?_
  let h_11 : Hp := hput h_10 (h_10 l0 15) (h l0 1) 0
  refine z_iload_n X dX4_addNode_106 4 rfl ?_
  refine z_iconst X dX4_addNode_107 kc_m1 ?_
  refine z_icmp_eq X dX4_addNode_108 rfl (fun hc108 => ?_) (fun hc108 => ?_)
  · have hf := ift hc108 hf
    exact z_weak [1, 4, 0] rfl (z_Gr_addNode_j132 X l0 l3 (h l0 1) h_11 _ hf hK)
  · have hf := iff' hc108 hf
    refine z_aload_n X dX4_addNode_111 1 rfl ?_
    refine y_get X fl_RX4_27 dX4_addNode_112 g1 ?_
    refine z_iload_n X dX4_addNode_115 4 rfl ?_
    obtain ⟨g14, hf⟩ := gif hf
    refine y_iald X dX4_addNode_116 g14 ?_
    refine z_iconst X dX4_addNode_117 kc_m1 ?_
    refine z_icmp_ne X dX4_addNode_118 rfl (fun hc118 => ?_) (fun hc118 => ?_)
    · have hf := iff' hc118 hf
      exact z_weak [1, 4, 0] rfl (z_Gr_addNode_j132 X l0 l3 (h l0 1) h_11 _ hf hK)
    · have hf := ift hc118 hf
      refine z_aload_n X dX4_addNode_121 1 rfl ?_
      refine y_get X fl_RX4_27 dX4_addNode_122 g1 ?_
      refine z_iload_n X dX4_addNode_125 4 rfl ?_
      refine z_iload X dX4_addNode_126 0 rfl ?_
      refine y_iast X dX4_addNode_128 g14 ?_
      let h_13 : Hp := hput h_11 (h_11 l0 11) l3 (h l0 1)
      refine z_goto X dX4_addNode_129 rfl ?_
      refine z_iload X dX4_addNode_145 0 rfl ?_
      cases hf
      exact z_iret X hK dX4_addNode_147
set_option maxHeartbeats 4000000 in
set_option maxRecDepth 100000 in
theorem z_Gr_addLetter_L26 {g : GP} {x : CX} {d : Nat} (X : zX g x RX4 cX4_addLetter 6 (d + 1)) (hd : 0 ≤ d) (l0 : Int)  (E : Hp → Prop) (hx0 : ∀ e : Hp, E (e) → ZV g x 6 e 65 [] []) (l4 l5 : Int) (h : Hp) (y : (Int × Int × Hp) ⊕ (Hp)) (hf : Gr_addLetter_L26 l0 l4 l5 h = some y) (hk : z_sum (fun q : Int × Int × Hp => ZV g x 6 q.2.2 26 [(0, (2, l0)), (4, (0, q.1)), (5, (0, q.2.1))] []) E y) : ZV g x 6 h 26 [(0, (2, l0)), (4, (0, l4)), (5, (0, l5))] [] := by
  unfold Gr_addLetter_L26 at hf
  refine z_iload X dX4_addLetter_26 2 rfl ?_
  refine z_bipush X dX4_addLetter_28 kb_12 kc_12 ?_
  refine z_icmp_ge X dX4_addLetter_30 rfl (fun hc30 => ?_) (fun hc30 => ?_)
  · have hf := ift hc30 hf
    cases hf
    exact z_weak [] rfl (hx0 _ hk)
  · have hf := iff' hc30 hf
    refine z_iload X dX4_addLetter_33 1 rfl ?_
    refine z_iconst X dX4_addLetter_35 kc_m1 ?_
    refine z_icmp_eq X dX4_addLetter_36 rfl (fun hc36 => ?_) (fun hc36 => ?_)
    · have hf := ift hc36 hf
      cases hf
      exact z_weak [] rfl (hx0 _ hk)
    · have hf := iff' hc36 hf
      refine z_aload_n X dX4_addLetter_39 0 rfl ?_
      obtain ⟨g2, hf⟩ := gif hf
      refine y_get X fl_RX4_36 dX4_addLetter_40 g2 ?_
      refine z_iload X dX4_addLetter_43 1 rfl ?_
      refine z_dup2 X ne0 ne2 dX4_addLetter_45 ?_
      obtain ⟨g3, hf⟩ := gif hf
      refine y_iald X dX4_addLetter_46 g3 ?_
      refine z_iconst X dX4_addLetter_47 kc_1 ?_
      refine z_iadd X dX4_addLetter_48 ?_
      refine y_iast X dX4_addLetter_49 g3 ?_
      let h_2 : Hp := hput h (h l0 14) l4 (w32 ((h (h l0 14) l4) + 1))
      refine z_aload_n X dX4_addLetter_50 0 rfl ?_
      refine y_get X fl_RX4_33 dX4_addLetter_51 g2 ?_
      refine z_iload X dX4_addLetter_54 1 rfl ?_
      obtain ⟨g4, hf⟩ := gif hf
      refine y_iald X dX4_addLetter_56 g4 ?_
      refine z_istore X dX4_addLetter_57 (by decide) (ls' := [(4, (0, h_2 (h_2 l0 13) l4)), (0, (2, l0)), (5, (0, l5))]) rfl ?_
      refine z_iinc X dX4_addLetter_59 2 rfl (by decide) (ls' := [(5, (0, w32 (l5 + 1))), (4, (0, h_2 (h_2 l0 13) l4)), (0, (2, l0))]) rfl ?_
      refine z_goto X dX4_addLetter_62 rfl ?_
      cases hf
      exact z_weak [2, 1, 0] rfl hk
set_option maxHeartbeats 4000000 in
set_option maxRecDepth 100000 in
theorem c_Gr_addLetter {l : Launch} {g : GP} (d : Nat) (hd : 1 ≤ d) (l0 l1 l2 : Int) (h : Hp) (y : Hp) (hf : Gr_addLetter l0 l1 l2 h = some y) : zM l yX4_addLetter cX4_addLetter 6 none d 0 0 g 157 h [(2, l0), (0, l1), (0, l2)] 157 y none := by
  obtain ⟨d, rfl⟩ : ∃ k, d = k + 1 := ⟨d - 1, by omega⟩
  replace hd : 0 ≤ d := Nat.le_of_succ_le_succ hd
  refine z_start (by decide) (Nat.le_of_ble_eq_true rfl) (fun x X hK _ _ _ hl => ?_)
  show ZV g x 6 h 0 [(0, (2, l0)), (1, (0, l1)), (2, (0, l2))] []
  unfold Gr_addLetter at hf
  refine z_aload_n X dX4_addLetter_0 0 rfl ?_
  refine z_iconst X dX4_addLetter_1 kc_1 ?_
  refine z_iload_n X dX4_addLetter_2 1 rfl ?_
  refine z_iload_n X dX4_addLetter_3 2 rfl ?_
  obtain ⟨g1, hf⟩ := gif hf
  obtain ⟨r4, hr4, hf⟩ := obE hf
  refine y_V1 X cv_RX4_85 dX4_addLetter_4 g1 (c_Gr_addNode d (Nat.zero_le _) l0 1 l1 l2 h r4 hr4) (as := [(0, 1), (0, l1), (0, l2)]) rfl rfl (Nat.le_of_ble_eq_true rfl) z00 ?_
  refine z_istore_n X dX4_addLetter_7 (by decide) (ls' := [(3, (0, r4.1)), (0, (2, l0)), (1, (0, l1)), (2, (0, l2))]) rfl ?_
  refine z_aload_n X dX4_addLetter_8 1 rfl ?_
  refine z_dup X ne2 dX4_addLetter_9 ?_
  refine y_get X fl_RX4_68 dX4_addLetter_10 g1 ?_
  refine z_iconst X dX4_addLetter_13 kc_1 ?_
  refine z_iload_n X dX4_addLetter_14 2 rfl ?_
  refine z_ishl X dX4_addLetter_15 ?_
  refine z_ior X dX4_addLetter_16 ?_
  refine y_put X fl_RX4_68 dX4_addLetter_17 g1 rfl (by decide) ?_
  let h_1 : Hp := hput r4.2 l0 5 (i_or (r4.2 l0 5) (i_shl 1 l1))
  refine z_iload_n X dX4_addLetter_20 0 rfl ?_
  refine z_istore X dX4_addLetter_21 (by decide) (ls' := [(4, (0, r4.1)), (3, (0, r4.1)), (0, (2, l0)), (1, (0, l1)), (2, (0, l2))]) rfl ?_
  refine z_iconst X dX4_addLetter_23 kc_0 ?_
  refine z_istore X dX4_addLetter_24 (by decide) (ls' := [(5, (0, 0)), (4, (0, r4.1)), (3, (0, r4.1)), (0, (2, l0)), (1, (0, l1)), (2, (0, l2))]) rfl ?_
  obtain ⟨q26, hq26, hf⟩ := obE hf
  have hx26_0 : ∀ e65 : Hp, (e65 : Hp) = q26 → ZV g x 6 e65 65 [] [] := by
    intro e65 hq
    subst hq
    cases hf
    exact z_vret X hK dX4_addLetter_65
  exact z_weak [3, 1, 0] rfl (z_loop (Z := (fun q : Int × Int × Hp => ZV g x 6 q.2.2 26 [(0, (2, l0)), (4, (0, q.1)), (5, (0, q.2.1))] [])) (E := fun q => q = q26) (fun q y hb hk => z_Gr_addLetter_L26 X hd l0 (fun q => q = q26) hx26_0 q.1 q.2.1 q.2.2 y hb hk) LN (r4.1, 0, h_1) q26 hq26 rfl)
set_option maxHeartbeats 4000000 in
set_option maxRecDepth 100000 in
theorem z_Gr_addFoot_L14 {g : GP} {x : CX} {d : Nat} (X : zX g x RX4 cX4_addFoot 6 (d + 1)) (hd : 0 ≤ d) (l0 : Int)  (E : Hp → Prop) (hx0 : ∀ e : Hp, E (e) → ZV g x 6 e 50 [] []) (l4 l5 : Int) (h : Hp) (y : (Int × Int × Hp) ⊕ (Hp)) (hf : Gr_addFoot_L14 l0 l4 l5 h = some y) (hk : z_sum (fun q : Int × Int × Hp => ZV g x 6 q.2.2 14 [(0, (2, l0)), (4, (0, q.1)), (5, (0, q.2.1))] []) E y) : ZV g x 6 h 14 [(0, (2, l0)), (4, (0, l4)), (5, (0, l5))] [] := by
  unfold Gr_addFoot_L14 at hf
  refine z_iload X dX4_addFoot_14 2 rfl ?_
  refine z_bipush X dX4_addFoot_16 kb_12 kc_12 ?_
  refine z_icmp_ge X dX4_addFoot_18 rfl (fun hc18 => ?_) (fun hc18 => ?_)
  · have hf := ift hc18 hf
    cases hf
    exact z_weak [] rfl (hx0 _ hk)
  · have hf := iff' hc18 hf
    refine z_iload X dX4_addFoot_21 1 rfl ?_
    refine z_iconst X dX4_addFoot_23 kc_m1 ?_
    refine z_icmp_eq X dX4_addFoot_24 rfl (fun hc24 => ?_) (fun hc24 => ?_)
    · have hf := ift hc24 hf
      cases hf
      exact z_weak [] rfl (hx0 _ hk)
    · have hf := iff' hc24 hf
      refine z_aload_n X dX4_addFoot_27 0 rfl ?_
      obtain ⟨g2, hf⟩ := gif hf
      refine y_get X fl_RX4_39 dX4_addFoot_28 g2 ?_
      refine z_iload X dX4_addFoot_31 1 rfl ?_
      refine z_iconst X dX4_addFoot_33 kc_1 ?_
      obtain ⟨g3, hf⟩ := gif hf
      refine y_zast X dX4_addFoot_34 g3 (Or.inr rfl) ?_
      let h_1 : Hp := hput h (h l0 15) l4 1
      refine z_aload_n X dX4_addFoot_35 0 rfl ?_
      refine y_get X fl_RX4_33 dX4_addFoot_36 g2 ?_
      refine z_iload X dX4_addFoot_39 1 rfl ?_
      obtain ⟨g4, hf⟩ := gif hf
      refine y_iald X dX4_addFoot_41 g4 ?_
      refine z_istore X dX4_addFoot_42 (by decide) (ls' := [(4, (0, h_1 (h_1 l0 13) l4)), (0, (2, l0)), (5, (0, l5))]) rfl ?_
      refine z_iinc X dX4_addFoot_44 2 rfl (by decide) (ls' := [(5, (0, w32 (l5 + 1))), (4, (0, h_1 (h_1 l0 13) l4)), (0, (2, l0))]) rfl ?_
      refine z_goto X dX4_addFoot_47 rfl ?_
      cases hf
      exact z_weak [2, 1, 0] rfl hk
set_option maxHeartbeats 4000000 in
set_option maxRecDepth 100000 in
theorem c_Gr_addFoot {l : Launch} {g : GP} (d : Nat) (hd : 1 ≤ d) (l0 l1 l2 : Int) (h : Hp) (y : Hp) (hf : Gr_addFoot l0 l1 l2 h = some y) : zM l yX4_addFoot cX4_addFoot 6 none d 0 0 g 157 h [(2, l0), (0, l1), (0, l2)] 157 y none := by
  obtain ⟨d, rfl⟩ : ∃ k, d = k + 1 := ⟨d - 1, by omega⟩
  replace hd : 0 ≤ d := Nat.le_of_succ_le_succ hd
  refine z_start (by decide) (Nat.le_of_ble_eq_true rfl) (fun x X hK _ _ _ hl => ?_)
  show ZV g x 6 h 0 [(0, (2, l0)), (1, (0, l1)), (2, (0, l2))] []
  unfold Gr_addFoot at hf
  refine z_aload_n X dX4_addFoot_0 0 rfl ?_
  refine z_iconst X dX4_addFoot_1 kc_3 ?_
  refine z_iload_n X dX4_addFoot_2 1 rfl ?_
  refine z_iload_n X dX4_addFoot_3 2 rfl ?_
  obtain ⟨g1, hf⟩ := gif hf
  obtain ⟨r4, hr4, hf⟩ := obE hf
  refine y_V1 X cv_RX4_85 dX4_addFoot_4 g1 (c_Gr_addNode d (Nat.zero_le _) l0 3 l1 l2 h r4 hr4) (as := [(0, 3), (0, l1), (0, l2)]) rfl rfl (Nat.le_of_ble_eq_true rfl) z00 ?_
  refine z_istore_n X dX4_addFoot_7 (by decide) (ls' := [(3, (0, r4.1)), (0, (2, l0)), (1, (0, l1)), (2, (0, l2))]) rfl ?_
  refine z_iload_n X dX4_addFoot_8 0 rfl ?_
  refine z_istore X dX4_addFoot_9 (by decide) (ls' := [(4, (0, r4.1)), (3, (0, r4.1)), (0, (2, l0)), (1, (0, l1)), (2, (0, l2))]) rfl ?_
  refine z_iconst X dX4_addFoot_11 kc_0 ?_
  refine z_istore X dX4_addFoot_12 (by decide) (ls' := [(5, (0, 0)), (4, (0, r4.1)), (3, (0, r4.1)), (0, (2, l0)), (1, (0, l1)), (2, (0, l2))]) rfl ?_
  obtain ⟨q14, hq14, hf⟩ := obE hf
  have hx14_0 : ∀ e50 : Hp, (e50 : Hp) = q14 → ZV g x 6 e50 50 [] [] := by
    intro e50 hq
    subst hq
    cases hf
    exact z_vret X hK dX4_addFoot_50
  exact z_weak [3, 1, 0] rfl (z_loop (Z := (fun q : Int × Int × Hp => ZV g x 6 q.2.2 14 [(0, (2, l0)), (4, (0, q.1)), (5, (0, q.2.1))] [])) (E := fun q => q = q14) (fun q y hb hk => z_Gr_addFoot_L14 X hd l0 (fun q => q = q14) hx14_0 q.1 q.2.1 q.2.2 y hb hk) LN (r4.1, 0, r4.2) q14 hq14 rfl)
set_option maxHeartbeats 4000000 in
set_option maxRecDepth 100000 in
theorem c_Gr_closeTree {l : Launch} {g : GP} (d : Nat) (hd : 0 ≤ d) (l0 : Int) (h : Hp) (y : Hp) (hf : Gr_closeTree l0 h = some y) : zM l yX4_closeTree cX4_closeTree 3 none d 0 0 g 157 h [(2, l0)] 157 y none := by
  refine z_start (by decide) (Nat.le_of_ble_eq_true rfl) (fun x X hK _ _ _ hl => ?_)
  show ZV g x 3 h 0 [(0, (2, l0))] []
  unfold Gr_closeTree at hf
  refine z_aload_n X dX4_closeTree_0 0 rfl ?_
  obtain ⟨g1, hf⟩ := gif hf
  refine y_get X fl_RX4_52 dX4_closeTree_1 g1 ?_
  refine z_iconst X dX4_closeTree_4 kc_1 ?_
  refine z_isub X dX4_closeTree_5 ?_
  refine z_istore_n X dX4_closeTree_6 (by decide) (ls' := [(1, (0, w32 ((h l0 0) - 1))), (0, (2, l0))]) rfl ?_
  refine z_aload_n X dX4_closeTree_7 1 rfl ?_
  refine y_get X fl_RX4_9 dX4_closeTree_8 g1 ?_
  refine z_iload_n X dX4_closeTree_11 0 rfl ?_
  obtain ⟨g2, hf⟩ := gif hf
  refine y_iald X dX4_closeTree_12 g2 ?_
  refine z_istore_n X dX4_closeTree_13 (by decide) (ls' := [(2, (0, h (h l0 6) (w32 ((h l0 0) - 1)))), (1, (0, w32 ((h l0 0) - 1))), (0, (2, l0))]) rfl ?_
  refine z_aload_n X dX4_closeTree_14 2 rfl ?_
  refine y_get X fl_RX4_39 dX4_closeTree_15 g1 ?_
  refine z_iload_n X dX4_closeTree_18 0 rfl ?_
  obtain ⟨g3, hf⟩ := gif hf
  refine y_zald X dX4_closeTree_19 g3 ?_
  refine z_if_eq X dX4_closeTree_20 rfl (fun hc20 => ?_) (fun hc20 => ?_)
  · have hf := ift hc20 hf
    refine z_aload_n X dX4_closeTree_55 2 rfl ?_
    refine z_dup X ne2 dX4_closeTree_56 ?_
    refine y_get X fl_RX4_59 dX4_closeTree_57 g1 ?_
    refine z_iconst X dX4_closeTree_60 kc_1 ?_
    refine z_iload_n X dX4_closeTree_61 1 rfl ?_
    refine z_ishl X dX4_closeTree_62 ?_
    refine z_ior X dX4_closeTree_63 ?_
    refine y_put X fl_RX4_59 dX4_closeTree_64 g1 rfl (by decide) ?_
    let h_1 : Hp := hput h l0 2 (i_or (h l0 2) (i_shl 1 (w32 ((h l0 0) - 1))))
    refine z_aload_n X dX4_closeTree_67 2 rfl ?_
    refine y_get X fl_RX4_46 dX4_closeTree_68 g1 ?_
    refine z_aload_n X dX4_closeTree_71 2 rfl ?_
    refine y_get X fl_RX4_21 dX4_closeTree_72 g1 ?_
    refine z_iload_n X dX4_closeTree_75 0 rfl ?_
    obtain ⟨g4, hf⟩ := gif hf
    refine y_iald X dX4_closeTree_76 g4 ?_
    refine z_dup2 X ne0 ne2 dX4_closeTree_77 ?_
    obtain ⟨g5, hf⟩ := gif hf
    refine y_iald X dX4_closeTree_78 g5 ?_
    refine z_iconst X dX4_closeTree_79 kc_1 ?_
    refine z_iload_n X dX4_closeTree_80 1 rfl ?_
    refine z_ishl X dX4_closeTree_81 ?_
    refine z_ior X dX4_closeTree_82 ?_
    refine y_iast X dX4_closeTree_83 g5 ?_
    let h_2 : Hp := hput h_1 (h_1 l0 17) (h_1 (h_1 l0 9) (h (h l0 6) (w32 ((h l0 0) - 1)))) (i_or (h_1 (h_1 l0 17) (h_1 (h_1 l0 9) (h (h l0 6) (w32 ((h l0 0) - 1))))) (i_shl 1 (w32 ((h l0 0) - 1))))
    cases hf
    exact z_vret X hK dX4_closeTree_84
  · have hf := iff' hc20 hf
    refine z_aload_n X dX4_closeTree_23 2 rfl ?_
    refine z_dup X ne2 dX4_closeTree_24 ?_
    refine y_get X fl_RX4_62 dX4_closeTree_25 g1 ?_
    refine z_iconst X dX4_closeTree_28 kc_1 ?_
    refine z_iload_n X dX4_closeTree_29 1 rfl ?_
    refine z_ishl X dX4_closeTree_30 ?_
    refine z_ior X dX4_closeTree_31 ?_
    refine y_put X fl_RX4_62 dX4_closeTree_32 g1 rfl (by decide) ?_
    let h_3 : Hp := hput h l0 3 (i_or (h l0 3) (i_shl 1 (w32 ((h l0 0) - 1))))
    refine z_aload_n X dX4_closeTree_35 2 rfl ?_
    refine y_get X fl_RX4_49 dX4_closeTree_36 g1 ?_
    refine z_aload_n X dX4_closeTree_39 2 rfl ?_
    refine y_get X fl_RX4_21 dX4_closeTree_40 g1 ?_
    refine z_iload_n X dX4_closeTree_43 0 rfl ?_
    obtain ⟨g6, hf⟩ := gif hf
    refine y_iald X dX4_closeTree_44 g6 ?_
    refine z_dup2 X ne0 ne2 dX4_closeTree_45 ?_
    obtain ⟨g7, hf⟩ := gif hf
    refine y_iald X dX4_closeTree_46 g7 ?_
    refine z_iconst X dX4_closeTree_47 kc_1 ?_
    refine z_iload_n X dX4_closeTree_48 1 rfl ?_
    refine z_ishl X dX4_closeTree_49 ?_
    refine z_ior X dX4_closeTree_50 ?_
    refine y_iast X dX4_closeTree_51 g7 ?_
    let h_4 : Hp := hput h_3 (h_3 l0 18) (h_3 (h_3 l0 9) (h (h l0 6) (w32 ((h l0 0) - 1)))) (i_or (h_3 (h_3 l0 18) (h_3 (h_3 l0 9) (h (h l0 6) (w32 ((h l0 0) - 1))))) (i_shl 1 (w32 ((h l0 0) - 1))))
    refine z_goto X dX4_closeTree_52 rfl ?_
    cases hf
    exact z_vret X hK dX4_closeTree_84
set_option maxHeartbeats 4000000 in
set_option maxRecDepth 100000 in
theorem c_Gr_turnOf {l : Launch} {g : GP} (d : Nat) (hd : 0 ≤ d) (l0 l1 : Int) (h : Hp) (y : Int) (hf : Gr_turnOf l0 l1 h = some y) : zM l yX4_turnOf cX4_turnOf 3 (some .int) d 0 0 g 157 h [(2, l0), (0, l1)] 157 h (some (0, y)) := by
  refine z_start (by decide) (Nat.le_of_ble_eq_true rfl) (fun x X hK _ _ _ hl => ?_)
  show ZV g x 3 h 0 [(0, (2, l0)), (1, (0, l1))] []
  unfold Gr_turnOf at hf
  refine z_aload_n X dX4_turnOf_0 0 rfl ?_
  obtain ⟨g1, hf⟩ := gif hf
  refine y_get X fl_RX4_36 dX4_turnOf_1 g1 ?_
  refine z_aload_n X dX4_turnOf_4 0 rfl ?_
  refine y_get X fl_RX4_9 dX4_turnOf_5 g1 ?_
  refine z_aload_n X dX4_turnOf_8 0 rfl ?_
  refine y_get X fl_RX4_15 dX4_turnOf_9 g1 ?_
  refine z_iload_n X dX4_turnOf_12 1 rfl ?_
  obtain ⟨g2, hf⟩ := gif hf
  refine y_iald X dX4_turnOf_13 g2 ?_
  obtain ⟨g3, hf⟩ := gif hf
  refine y_iald X dX4_turnOf_14 g3 ?_
  obtain ⟨g4, hf⟩ := gif hf
  refine y_iald X dX4_turnOf_15 g4 ?_
  refine z_istore_n X dX4_turnOf_16 (by decide) (ls' := [(2, (0, h (h l0 14) (h (h l0 6) (h (h l0 7) l1)))), (0, (2, l0)), (1, (0, l1))]) rfl ?_
  refine z_iload_n X dX4_turnOf_17 0 rfl ?_
  refine z_if_ne X dX4_turnOf_18 rfl (fun hc18 => ?_) (fun hc18 => ?_)
  · have hf := iff' hc18 hf
    refine z_aload_n X dX4_turnOf_23 1 rfl ?_
    refine y_get X fl_RX4_36 dX4_turnOf_24 g1 ?_
    refine z_iload_n X dX4_turnOf_27 2 rfl ?_
    obtain ⟨g5, hf⟩ := gif hf
    refine y_iald X dX4_turnOf_28 g5 ?_
    refine z_iload_n X dX4_turnOf_29 0 rfl ?_
    refine z_icmp_ne X dX4_turnOf_30 rfl (fun hc30 => ?_) (fun hc30 => ?_)
    · rw [if_neg hc30] at hf
      refine z_iconst X dX4_turnOf_37 kc_2 ?_
      cases hf
      exact z_iret X hK dX4_turnOf_38
    · rw [if_pos hc30] at hf
      refine z_iconst X dX4_turnOf_33 kc_0 ?_
      refine z_goto X dX4_turnOf_34 rfl ?_
      cases hf
      exact z_iret X hK dX4_turnOf_38
  · have hf := ift hc18 hf
    refine z_iconst X dX4_turnOf_21 kc_1 ?_
    cases hf
    exact z_iret X hK dX4_turnOf_22
set_option maxHeartbeats 4000000 in
set_option maxRecDepth 100000 in
theorem z_Gr_putInOrder_j39 {g : GP} {x : CX} {d : Nat} (X : zX g x RX4 cX4_putInOrder 4 (d + 1)) (hd : 0 ≤ d) (l0 l1 l2 l3 : Int) (h : Hp) (y : (Int × Int × Hp) ⊕ (Int × Hp)) (hf : Gr_putInOrder_j39 l0 l1 l2 l3 h = some y) (E : Int × Hp → Prop) (hx0 : ∀ e : Int × Hp, E (e) → ZV g x 4 e.2 45 [(0, (2, l0)), (1, (0, e.1)), (2, (0, l2))] []) (hk : z_sum (fun q : Int × Int × Hp => ZV g x 4 q.2.2 16 [(0, (2, l0)), (1, (0, q.1)), (2, (0, l2)), (3, (0, q.2.1))] []) E y) : ZV g x 4 h 39 [(0, (2, l0)), (1, (0, l1)), (2, (0, l2)), (3, (0, l3))] [] := by
  unfold Gr_putInOrder_j39 at hf
  refine z_iinc X dX4_putInOrder_39 3 rfl (by decide) (ls' := [(3, (0, w32 (l3 + (-1)))), (0, (2, l0)), (1, (0, l1)), (2, (0, l2))]) rfl ?_
  refine z_goto X dX4_putInOrder_42 rfl ?_
  cases hf
  exact z_weak [1, 2, 3, 0] rfl hk
set_option maxHeartbeats 4000000 in
set_option maxRecDepth 100000 in
theorem z_Gr_putInOrder_L16 {g : GP} {x : CX} {d : Nat} (X : zX g x RX4 cX4_putInOrder 4 (d + 1)) (hd : 0 ≤ d) (l0 l2 : Int)  (E : Int × Hp → Prop) (hx0 : ∀ e : Int × Hp, E (e) → ZV g x 4 e.2 45 [(0, (2, l0)), (1, (0, e.1)), (2, (0, l2))] []) (l1 l3 : Int) (h : Hp) (y : (Int × Int × Hp) ⊕ (Int × Hp)) (hf : Gr_putInOrder_L16 l0 l2 l1 l3 h = some y) (hk : z_sum (fun q : Int × Int × Hp => ZV g x 4 q.2.2 16 [(0, (2, l0)), (1, (0, q.1)), (2, (0, l2)), (3, (0, q.2.1))] []) E y) : ZV g x 4 h 16 [(0, (2, l0)), (1, (0, l1)), (2, (0, l2)), (3, (0, l3))] [] := by
  unfold Gr_putInOrder_L16 at hf
  refine z_iload_n X dX4_putInOrder_16 3 rfl ?_
  refine z_if_lt X dX4_putInOrder_17 rfl (fun hc17 => ?_) (fun hc17 => ?_)
  · have hf := ift hc17 hf
    cases hf
    exact z_weak [0, 1, 2] rfl (hx0 _ hk)
  · have hf := iff' hc17 hf
    refine z_aload_n X dX4_putInOrder_20 0 rfl ?_
    refine z_iload_n X dX4_putInOrder_21 3 rfl ?_
    obtain ⟨g2, hf⟩ := gif hf
    obtain ⟨r22, hr22, hf⟩ := obE hf
    refine y_V1 X cv_RX4_89 dX4_putInOrder_22 g2 (c_Gr_turnOf d (Nat.zero_le _) l0 l3 h r22 hr22) (as := [(0, l3)]) rfl rfl (Nat.le_of_ble_eq_true rfl) z00 ?_
    refine z_iload_n X dX4_putInOrder_25 2 rfl ?_
    refine z_icmp_ne X dX4_putInOrder_26 rfl (fun hc26 => ?_) (fun hc26 => ?_)
    · have hf := iff' hc26 hf
      exact (z_Gr_putInOrder_j39 X hd l0 l1 l2 l3 h _ hf E hx0 hk)
    · have hf := ift hc26 hf
      refine z_aload_n X dX4_putInOrder_29 0 rfl ?_
      refine y_get X fl_RX4_43 dX4_putInOrder_30 g2 ?_
      refine z_iload_n X dX4_putInOrder_33 1 rfl ?_
      refine z_iload_n X dX4_putInOrder_34 3 rfl ?_
      obtain ⟨g3, hf⟩ := gif hf
      refine y_iast X dX4_putInOrder_35 g3 ?_
      let h_1 : Hp := hput h (h l0 16) l1 l3
      refine z_iinc X dX4_putInOrder_36 1 rfl (by decide) (ls' := [(1, (0, w32 (l1 + 1))), (0, (2, l0)), (2, (0, l2)), (3, (0, l3))]) rfl ?_
      exact z_weak [1, 0, 2, 3] rfl (z_Gr_putInOrder_j39 X hd l0 (w32 (l1 + 1)) l2 l3 h_1 _ hf E hx0 hk)
