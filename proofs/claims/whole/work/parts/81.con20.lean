set_option maxHeartbeats 4000000 in
set_option maxRecDepth 100000 in
theorem z_M_used_L44 {g : GP} {x : CX} {d : Nat} (X : zX g x RX12 cX12_used 5 (d + 1)) (hd : 3 ≤ d) (l0 l1 l2 : Int)  (E : Hp → Prop) (hx0 : ∀ e : Hp, E (e) → ZV g x 5 e 81 [(0, (2, l0)), (1, (0, l1)), (2, (0, l2))] []) (l3 : Int) (h : Hp) (y : (Int × Hp) ⊕ (Hp)) (hf : M_used_L44 (d + 1) l0 l1 l2 l3 h = some y) (hk : z_sum (fun q : Int × Hp => ZV g x 5 q.2 44 [(0, (2, l0)), (1, (0, l1)), (2, (0, l2)), (3, (0, q.1))] []) E y) : ZV g x 5 h 44 [(0, (2, l0)), (1, (0, l1)), (2, (0, l2)), (3, (0, l3))] [] := by
  unfold M_used_L44 at hf
  refine z_iload_n X dX12_used_44 3 rfl ?_
  refine z_aload_n X dX12_used_45 0 rfl ?_
  obtain ⟨g3, hf⟩ := gif hf
  refine y_get X fl_RX12_11 dX12_used_46 g3 ?_
  refine z_icmp_ge X dX12_used_49 rfl (fun hc49 => ?_) (fun hc49 => ?_)
  · have hf := ift hc49 hf
    cases hf
    exact z_weak [0, 1, 2] rfl (hx0 _ hk)
  · have hf := iff' hc49 hf
    refine z_aload_n X dX12_used_52 0 rfl ?_
    refine z_iload_n X dX12_used_53 3 rfl ?_
    refine z_aload_n X dX12_used_54 0 rfl ?_
    obtain ⟨r55, hr55, hf⟩ := obE hf
    refine y_V1 X cv_RX12_354 dX12_used_55 g3 (c_M_start d (Nat.zero_le _) l0 h r55 hr55) (as := []) rfl rfl (Nat.le_of_ble_eq_true rfl) z00 ?_
    refine z_iconst X dX12_used_58 kc_0 ?_
    obtain ⟨r59, hr59, hf⟩ := obE hf
    refine y_V1 X cv_RX12_296 dX12_used_59 g3 (c_M_mayGo d (Nat.le_trans (by decide) hd) l0 l3 r55 0 h r59 hr59) (as := [(0, l3), (0, r55), (0, 0)]) rfl rfl (Nat.le_of_ble_eq_true rfl) z00 ?_
    refine z_if_eq X dX12_used_62 rfl (fun hc62 => ?_) (fun hc62 => ?_)
    · have hf := ift hc62 hf
      exact (z_M_used_j75 X hd l0 l1 l2 l3 h _ hf E hx0 hk)
    · have hf := iff' hc62 hf
      refine z_aload_n X dX12_used_65 0 rfl ?_
      refine z_iload_n X dX12_used_66 3 rfl ?_
      refine z_iconst X dX12_used_67 kc_0 ?_
      refine z_aload_n X dX12_used_68 0 rfl ?_
      refine y_get X fl_RX12_249 dX12_used_69 g3 ?_
      obtain ⟨r72, hr72, hf⟩ := obE hf
      refine y_V0 X cv_RX12_415 dX12_used_72 g3 (c_M_meetsHost d l0 l3 0 (h l0 34) h r72 hr72) (as := [(0, l3), (0, 0), (0, h l0 34)]) rfl rfl (Nat.le_of_ble_eq_true rfl) z00 ?_
      exact (z_M_used_j75 X hd l0 l1 l2 l3 r72 _ hf E hx0 hk)
set_option maxHeartbeats 4000000 in
set_option maxRecDepth 100000 in
theorem z_M_used_j89 {g : GP} {x : CX} {d : Nat} (X : zX g x RX12 cX12_used 5 (d + 1)) (hd : 3 ≤ d) (l0 : Int) (h : Hp) (y : Int × Hp) (hf : M_used_j89 (d + 1) l0 h = some y) (hK : zE g x (some .int) 0 0 157 y.2 (some (0, y.1))) : ZV g x 5 h 89 [(0, (2, l0))] [] := by
  unfold M_used_j89 at hf
  refine z_aload_n X dX12_used_89 0 rfl ?_
  obtain ⟨g4, hf⟩ := gif hf
  refine y_get X fl_RX12_412 dX12_used_90 g4 ?_
  cases hf
  exact z_iret X hK dX12_used_93
set_option maxHeartbeats 4000000 in
set_option maxRecDepth 100000 in
theorem z_M_used_j128 {g : GP} {x : CX} {d : Nat} (X : zX g x RX12 cX12_used 5 (d + 1)) (hd : 3 ≤ d) (l0 l4 s0 s1 : Int) (h : Hp) (y : (Int × Int × Hp) ⊕ (Int × Hp)) (hf : M_used_j128 (d + 1) l0 l4 s0 s1 h = some y) (E : Int × Hp → Prop) (hx0 : ∀ e : Int × Hp, E (e) → ZV g x 5 e.2 136 [(3, (0, e.1))] []) (hk : z_sum (fun q : Int × Int × Hp => ZV g x 5 q.2.2 99 [(0, (2, l0)), (3, (0, q.1)), (4, (0, q.2.1))] []) E y) : ZV g x 5 h 128 [(0, (2, l0)), (4, (0, l4))] [(0, s0), (0, s1)] := by
  unfold M_used_j128 at hf
  refine z_ior X dX12_used_128 ?_
  refine z_istore_n X dX12_used_129 (by decide) (ls' := [(3, (0, i_or s1 s0)), (0, (2, l0)), (4, (0, l4))]) rfl ?_
  refine z_iinc X dX12_used_130 2 rfl (by decide) (ls' := [(4, (0, w32 (l4 + 1))), (3, (0, i_or s1 s0)), (0, (2, l0))]) rfl ?_
  refine z_goto X dX12_used_133 rfl ?_
  cases hf
  exact z_weak [2, 1, 0] rfl hk
set_option maxHeartbeats 4000000 in
set_option maxRecDepth 100000 in
theorem z_M_used_L99 {g : GP} {x : CX} {d : Nat} (X : zX g x RX12 cX12_used 5 (d + 1)) (hd : 3 ≤ d) (l0 : Int)  (E : Int × Hp → Prop) (hx0 : ∀ e : Int × Hp, E (e) → ZV g x 5 e.2 136 [(3, (0, e.1))] []) (l3 l4 : Int) (h : Hp) (y : (Int × Int × Hp) ⊕ (Int × Hp)) (hf : M_used_L99 (d + 1) l0 l3 l4 h = some y) (hk : z_sum (fun q : Int × Int × Hp => ZV g x 5 q.2.2 99 [(0, (2, l0)), (3, (0, q.1)), (4, (0, q.2.1))] []) E y) : ZV g x 5 h 99 [(0, (2, l0)), (3, (0, l3)), (4, (0, l4))] [] := by
  unfold M_used_L99 at hf
  refine z_iload X dX12_used_99 2 rfl ?_
  refine z_aload_n X dX12_used_101 0 rfl ?_
  obtain ⟨g5, hf⟩ := gif hf
  refine y_get X fl_RX12_11 dX12_used_102 g5 ?_
  refine z_icmp_ge X dX12_used_105 rfl (fun hc105 => ?_) (fun hc105 => ?_)
  · have hf := ift hc105 hf
    cases hf
    exact z_weak [1] rfl (hx0 _ hk)
  · have hf := iff' hc105 hf
    refine z_iload_n X dX12_used_108 1 rfl ?_
    refine z_aload_n X dX12_used_109 0 rfl ?_
    refine z_iload X dX12_used_110 2 rfl ?_
    obtain ⟨r112, hr112, hf⟩ := obE hf
    refine y_V1 X cv_RX12_419 dX12_used_112 g5 (c_M_without d (Nat.le_trans (by decide) hd) l0 l4 h r112 hr112) (as := [(0, l4)]) rfl rfl (Nat.le_of_ble_eq_true rfl) z00 ?_
    refine z_lconst0 X dX12_used_115 ?_
    refine z_l_ne X dX12_used_116 dX12_used_117 rfl (fun hc116 => ?_) (fun hc116 => ?_)
    · rw [if_neg hc116] at hf
      refine z_iconst X dX12_used_127 kc_0 ?_
      exact z_weak [0, 2] rfl (z_M_used_j128 X hd l0 l4 0 l3 r112.2 _ hf E hx0 hk)
    · rw [if_pos hc116] at hf
      refine z_iconst X dX12_used_120 kc_1 ?_
      refine z_iload X dX12_used_121 2 rfl ?_
      refine z_ishl X dX12_used_123 ?_
      refine z_goto X dX12_used_124 rfl ?_
      exact z_weak [0, 2] rfl (z_M_used_j128 X hd l0 l4 (i_shl 1 l4) l3 r112.2 _ hf E hx0 hk)
set_option maxHeartbeats 4000000 in
set_option maxRecDepth 100000 in
theorem z_M_used_j36 {g : GP} {x : CX} {d : Nat} (X : zX g x RX12 cX12_used 5 (d + 1)) (hd : 3 ≤ d) (l0 l1 s0 : Int) (h : Hp) (y : Int × Hp) (hf : M_used_j36 (d + 1) l0 l1 s0 h = some y) (hK : zE g x (some .int) 0 0 157 y.2 (some (0, y.1))) : ZV g x 5 h 36 [(0, (2, l0)), (1, (0, l1))] [(0, s0)] := by
  unfold M_used_j36 at hf
  refine z_istore_n X dX12_used_36 (by decide) (ls' := [(2, (0, s0)), (0, (2, l0)), (1, (0, l1))]) rfl ?_
  refine z_aload_n X dX12_used_37 1 rfl ?_
  refine z_iconst X dX12_used_38 kc_0 ?_
  obtain ⟨g2, hf⟩ := gif hf
  refine y_put X fl_RX12_412 dX12_used_39 g2 rfl (by decide) ?_
  let h_1 : Hp := hput h l0 45 0
  refine z_iconst X dX12_used_42 kc_0 ?_
  refine z_istore_n X dX12_used_43 (by decide) (ls' := [(3, (0, 0)), (2, (0, s0)), (0, (2, l0)), (1, (0, l1))]) rfl ?_
  obtain ⟨q44, hq44, hf⟩ := obE hf
  have hx44_0 : ∀ e81 : Hp, (e81 : Hp) = q44 → ZV g x 5 e81 81 [(0, (2, l0)), (1, (0, l1)), (2, (0, s0))] [] := by
    intro e81 hq
    subst hq
    refine z_iload_n X dX12_used_81 1 rfl ?_
    refine z_if_eq X dX12_used_82 rfl (fun hc82 => ?_) (fun hc82 => ?_)
    · have hf := ift hc82 hf
      exact z_weak [0] rfl (z_M_used_j89 X hd l0 e81 _ hf hK)
    · have hf := iff' hc82 hf
      refine z_iload_n X dX12_used_85 2 rfl ?_
      refine z_if_ne X dX12_used_86 rfl (fun hc86 => ?_) (fun hc86 => ?_)
      · have hf := iff' hc86 hf
        refine z_iconst X dX12_used_94 kc_0 ?_
        refine z_istore_n X dX12_used_95 (by decide) (ls' := [(3, (0, 0)), (0, (2, l0)), (1, (0, l1)), (2, (0, s0))]) rfl ?_
        refine z_iconst X dX12_used_96 kc_0 ?_
        refine z_istore X dX12_used_97 (by decide) (ls' := [(4, (0, 0)), (3, (0, 0)), (0, (2, l0)), (1, (0, l1)), (2, (0, s0))]) rfl ?_
        obtain ⟨q99, hq99, hf⟩ := obE hf
        have hx99_0 : ∀ e136 : Int × Hp, (e136 : Int × Hp) = q99 → ZV g x 5 e136.2 136 [(3, (0, e136.1))] [] := by
          intro e136 hq
          subst hq
          refine z_iload_n X dX12_used_136 0 rfl ?_
          cases hf
          exact z_iret X hK dX12_used_137
        exact z_weak [2, 1, 0] rfl (z_loop (Z := (fun q : Int × Int × Hp => ZV g x 5 q.2.2 99 [(0, (2, l0)), (3, (0, q.1)), (4, (0, q.2.1))] [])) (E := fun q => q = q99) (fun q y hb hk => z_M_used_L99 X hd l0 (fun q => q = q99) hx99_0 q.1 q.2.1 q.2.2 y hb hk) LN (0, 0, e81) q99 hq99 rfl)
      · have hf := ift hc86 hf
        exact z_weak [0] rfl (z_M_used_j89 X hd l0 e81 _ hf hK)
  exact z_weak [2, 3, 1, 0] rfl (z_loop (Z := (fun q : Int × Hp => ZV g x 5 q.2 44 [(0, (2, l0)), (1, (0, l1)), (2, (0, s0)), (3, (0, q.1))] [])) (E := fun q => q = q44) (fun q y hb hk => z_M_used_L44 X hd l0 l1 s0 (fun q => q = q44) hx44_0 q.1 q.2 y hb hk) LN (0, h_1) q44 hq44 rfl)
set_option maxHeartbeats 4000000 in
set_option maxRecDepth 100000 in
theorem c_M_used {l : Launch} {g : GP} (d : Nat) (hd : 4 ≤ d) (l0 l1 : Int) (h : Hp) (y : Int × Hp) (hf : M_used d l0 l1 h = some y) : zM l yX12_used cX12_used 5 (some .int) d 0 0 g 157 h [(2, l0), (0, l1)] 157 y.2 (some (0, y.1)) := by
  obtain ⟨d, rfl⟩ : ∃ k, d = k + 1 := ⟨d - 1, by omega⟩
  replace hd : 3 ≤ d := Nat.le_of_succ_le_succ hd
  refine z_start (by decide) (Nat.le_of_ble_eq_true rfl) (fun x X hK _ _ _ hl => ?_)
  show ZV g x 5 h 0 [(0, (2, l0)), (1, (0, l1))] []
  unfold M_used at hf
  refine z_iload_n X dX12_used_0 1 rfl ?_
  refine z_i2l X dX12_used_1 ?_
  refine z_lconst0 X dX12_used_2 ?_
  refine z_lconst1 X dX12_used_3 ?_
  obtain ⟨r4, hr4, hf⟩ := obE hf
  refine y_S1 X cs_RX12_14 dX12_used_4 (c_M_in d (Nat.zero_le _) l1 0 1 h r4 hr4) (as := [(1, l1), (1, 0), (1, 1)]) rfl rfl (Nat.le_of_ble_eq_true rfl) z00 ?_
  refine z_if_ne X dX12_used_7 rfl (fun hc7 => ?_) (fun hc7 => ?_)
  · have hf := iff' hc7 hf
    refine z_aload_n X dX12_used_13 0 rfl ?_
    refine z_iconst X dX12_used_14 kc_0 ?_
    obtain ⟨g1, hf⟩ := gif hf
    obtain ⟨r15, hr15, hf⟩ := obE hf
    refine y_V0 X cv_RX12_387 dX12_used_15 g1 (c_M_looksAt d (Nat.le_trans (by decide) hd) l0 0 h r15 hr15) (as := [(0, 0)]) rfl rfl (Nat.le_of_ble_eq_true rfl) z00 ?_
    refine z_aload_n X dX12_used_18 0 rfl ?_
    refine z_aload_n X dX12_used_19 0 rfl ?_
    refine y_get X fl_RX12_249 dX12_used_20 g1 ?_
    obtain ⟨r23, hr23, hf⟩ := obE hf
    refine y_V1 X cv_RX12_397 dX12_used_23 g1 (c_M_waysOfAll d (Nat.le_trans (by decide) hd) l0 (r15 l0 34) r15 r23 hr23) (as := [(0, r15 l0 34)]) rfl rfl (Nat.le_of_ble_eq_true rfl) z00 ?_
    refine z_lconst0 X dX12_used_26 ?_
    refine z_l_le X dX12_used_27 dX12_used_28 rfl (fun hc27 => ?_) (fun hc27 => ?_)
    · rw [if_pos hc27] at hf
      refine z_iconst X dX12_used_35 kc_0 ?_
      exact (z_M_used_j36 X hd l0 l1 0 r23.2 _ hf hK)
    · rw [if_neg hc27] at hf
      refine z_iconst X dX12_used_31 kc_1 ?_
      refine z_goto X dX12_used_32 rfl ?_
      exact (z_M_used_j36 X hd l0 l1 1 r23.2 _ hf hK)
  · have hf := ift hc7 hf
    refine z_bipush X dX12_used_10 kb_m2 kc_m2 ?_
    cases hf
    exact z_iret X hK dX12_used_12
set_option maxHeartbeats 4000000 in
set_option maxRecDepth 100000 in
theorem c_M_readsRow {l : Launch} {g : GP} (d : Nat) (hd : 3 ≤ d) (l0 : Int) (h : Hp) (y : Int × Hp) (hf : M_readsRow d l0 h = some y) : zM l yX12_readsRow cX12_readsRow 1 (some .boolean) d 0 0 g 157 h [(2, l0)] 157 y.2 (some (0, y.1)) := by
  obtain ⟨d, rfl⟩ : ∃ k, d = k + 1 := ⟨d - 1, by omega⟩
  replace hd : 2 ≤ d := Nat.le_of_succ_le_succ hd
  refine z_start (by decide) (Nat.le_of_ble_eq_true rfl) (fun x X hK _ _ _ hl => ?_)
  show ZV g x 1 h 0 [(0, (2, l0))] []
  unfold M_readsRow at hf
  refine z_aload_n X dX12_readsRow_0 0 rfl ?_
  obtain ⟨g1, hf⟩ := gif hf
  obtain ⟨r1, hr1, hf⟩ := obE hf
  refine y_V0 X cv_RX12_244 dX12_readsRow_1 g1 (c_M_forgets d (Nat.zero_le _) l0 h r1 hr1) (as := []) rfl rfl (Nat.le_of_ble_eq_true rfl) z00 ?_
  refine z_aload_n X dX12_readsRow_4 0 rfl ?_
  refine z_aload_n X dX12_readsRow_5 0 rfl ?_
  refine y_get X fl_RX12_26 dX12_readsRow_6 g1 ?_
  refine y_put X fl_RX12_252 dX12_readsRow_9 g1 rfl (by decide) ?_
  let h_1 : Hp := hput r1 l0 35 (r1 l0 3)
  refine z_aload_n X dX12_readsRow_12 0 rfl ?_
  refine z_aload_n X dX12_readsRow_13 0 rfl ?_
  refine y_get X fl_RX12_249 dX12_readsRow_14 g1 ?_
  obtain ⟨r17, hr17, hf⟩ := obE hf
  refine y_V1 X cv_RX12_397 dX12_readsRow_17 g1 (c_M_waysOfAll d (Nat.le_trans (by decide) hd) l0 (h_1 l0 34) h_1 r17 hr17) (as := [(0, h_1 l0 34)]) rfl rfl (Nat.le_of_ble_eq_true rfl) z00 ?_
  refine z_lconst0 X dX12_readsRow_20 ?_
  refine z_l_le X dX12_readsRow_21 dX12_readsRow_22 rfl (fun hc21 => ?_) (fun hc21 => ?_)
  · rw [if_pos hc21] at hf
    refine z_iconst X dX12_readsRow_29 kc_0 ?_
    cases hf
    exact z_zret X hK (Or.inl rfl) dX12_readsRow_30
  · rw [if_neg hc21] at hf
    refine z_iconst X dX12_readsRow_25 kc_1 ?_
    refine z_goto X dX12_readsRow_26 rfl ?_
    cases hf
    exact z_zret X hK (Or.inr rfl) dX12_readsRow_30
set_option maxHeartbeats 4000000 in
set_option maxRecDepth 100000 in
theorem z_M_mendsUpTo_j101 {g : GP} {x : CX} {d : Nat} (X : zX g x RX12 cX12_mendsUpTo 6 (d + 1)) (hd : 3 ≤ d) (l0 l1 l2 l3 l4 l5 : Int) (h : Hp) (y : (Int × Int × Hp) ⊕ ((Int × Hp) ⊕ (Int × Hp))) (hf : M_mendsUpTo_j101 (d + 1) l0 l1 l2 l3 l4 l5 h = some y) (E : (Int × Hp) ⊕ (Int × Hp) → Prop) (hx0 : ∀ e : Int × Hp, E (.inl e) → ZV g x 6 e.2 99 [(2, (0, e.1))] []) (hx1 : ∀ e : Int × Hp, E (.inr e) → ZV g x 6 e.2 107 [(0, (2, l0)), (1, (0, l1)), (2, (0, e.1)), (3, (0, l3)), (4, (0, l4))] []) (hk : z_sum (fun q : Int × Int × Hp => ZV g x 6 q.2.2 22 [(0, (2, l0)), (1, (0, l1)), (2, (0, q.1)), (3, (0, l3)), (4, (0, l4)), (5, (0, q.2.1))] []) E y) : ZV g x 6 h 101 [(0, (2, l0)), (1, (0, l1)), (2, (0, l2)), (3, (0, l3)), (4, (0, l4)), (5, (0, l5))] [] := by
  unfold M_mendsUpTo_j101 at hf
  refine z_iinc X dX12_mendsUpTo_101 5 rfl (by decide) (ls' := [(5, (0, w32 (l5 + 1))), (0, (2, l0)), (1, (0, l1)), (2, (0, l2)), (3, (0, l3)), (4, (0, l4))]) rfl ?_
  refine z_goto X dX12_mendsUpTo_104 rfl ?_
  cases hf
  exact z_weak [1, 2, 3, 4, 5, 0] rfl hk
set_option maxHeartbeats 4000000 in
set_option maxRecDepth 100000 in
theorem z_M_mendsUpTo_L22 {g : GP} {x : CX} {d : Nat} (X : zX g x RX12 cX12_mendsUpTo 6 (d + 1)) (hd : 3 ≤ d) (l0 l1 l3 l4 : Int)  (E : (Int × Hp) ⊕ (Int × Hp) → Prop) (hx0 : ∀ e : Int × Hp, E (.inl e) → ZV g x 6 e.2 99 [(2, (0, e.1))] []) (hx1 : ∀ e : Int × Hp, E (.inr e) → ZV g x 6 e.2 107 [(0, (2, l0)), (1, (0, l1)), (2, (0, e.1)), (3, (0, l3)), (4, (0, l4))] []) (l2 l5 : Int) (h : Hp) (y : (Int × Int × Hp) ⊕ ((Int × Hp) ⊕ (Int × Hp))) (hf : M_mendsUpTo_L22 (d + 1) l0 l1 l3 l4 l2 l5 h = some y) (hk : z_sum (fun q : Int × Int × Hp => ZV g x 6 q.2.2 22 [(0, (2, l0)), (1, (0, l1)), (2, (0, q.1)), (3, (0, l3)), (4, (0, l4)), (5, (0, q.2.1))] []) E y) : ZV g x 6 h 22 [(0, (2, l0)), (1, (0, l1)), (2, (0, l2)), (3, (0, l3)), (4, (0, l4)), (5, (0, l5))] [] := by
  unfold M_mendsUpTo_L22 at hf
  refine z_iload X dX12_mendsUpTo_22 5 rfl ?_
  refine z_bipush X dX12_mendsUpTo_24 kb_26 kc_26 ?_
  refine z_icmp_ge X dX12_mendsUpTo_26 rfl (fun hc26 => ?_) (fun hc26 => ?_)
  · have hf := ift hc26 hf
    cases hf
    exact z_weak [0, 1, 2, 3, 4] rfl (hx1 _ hk)
  · have hf := iff' hc26 hf
    refine z_iload_n X dX12_mendsUpTo_29 3 rfl ?_
    refine z_iload X dX12_mendsUpTo_30 5 rfl ?_
    refine z_ishr X dX12_mendsUpTo_32 ?_
    refine z_iconst X dX12_mendsUpTo_33 kc_1 ?_
    refine z_iand X dX12_mendsUpTo_34 ?_
    refine z_if_eq X dX12_mendsUpTo_35 rfl (fun hc35 => ?_) (fun hc35 => ?_)
    · have hf := ift hc35 hf
      exact (z_M_mendsUpTo_j101 X hd l0 l1 l2 l3 l4 l5 h _ hf E hx0 hx1 hk)
    · have hf := iff' hc35 hf
      refine z_iload X dX12_mendsUpTo_38 5 rfl ?_
      refine z_aload_n X dX12_mendsUpTo_40 0 rfl ?_
      obtain ⟨g3, hf⟩ := gif hf
      refine y_get X fl_RX12_174 dX12_mendsUpTo_41 g3 ?_
      refine z_iload X dX12_mendsUpTo_44 4 rfl ?_
      obtain ⟨g4, hf⟩ := gif hf
      refine y_iald X dX12_mendsUpTo_46 g4 ?_
      refine z_icmp_ne X dX12_mendsUpTo_47 rfl (fun hc47 => ?_) (fun hc47 => ?_)
      · have hf := iff' hc47 hf
        refine z_aload_n X dX12_mendsUpTo_53 0 rfl ?_
        refine z_iconst X dX12_mendsUpTo_54 kc_0 ?_
        obtain ⟨r55, hr55, hf⟩ := obE hf
        refine y_V0 X cv_RX12_387 dX12_mendsUpTo_55 g3 (c_M_looksAt d (Nat.le_trans (by decide) hd) l0 0 h r55 hr55) (as := [(0, 0)]) rfl rfl (Nat.le_of_ble_eq_true rfl) z00 ?_
        refine z_aload_n X dX12_mendsUpTo_58 0 rfl ?_
        refine y_get X fl_RX12_182 dX12_mendsUpTo_59 g3 ?_
        refine z_iload X dX12_mendsUpTo_62 4 rfl ?_
        refine z_iload X dX12_mendsUpTo_64 5 rfl ?_
        obtain ⟨g5, hf⟩ := gif hf
        refine y_iast X dX12_mendsUpTo_66 g5 ?_
        let h_1 : Hp := hput r55 (r55 l0 33) l4 l5
        refine z_aload_n X dX12_mendsUpTo_67 0 rfl ?_
        obtain ⟨r68, hr68, hf⟩ := obE hf
        refine y_V1 X cv_RX12_422 dX12_mendsUpTo_68 g3 (c_M_readsRow d (Nat.le_trans (by decide) hd) l0 h_1 r68 hr68) (as := []) rfl rfl (Nat.le_of_ble_eq_true rfl) z00 ?_
        refine z_if_ne X dX12_mendsUpTo_71 rfl (fun hc71 => ?_) (fun hc71 => ?_)
        · have hf := iff' hc71 hf
          refine z_aload_n X dX12_mendsUpTo_77 0 rfl ?_
          refine z_bipush X dX12_mendsUpTo_78 kb_100 kc_100 ?_
          refine z_iload X dX12_mendsUpTo_80 4 rfl ?_
          refine z_imul X dX12_mendsUpTo_82 ?_
          refine z_iload X dX12_mendsUpTo_83 5 rfl ?_
          refine z_iadd X dX12_mendsUpTo_85 ?_
          refine y_put X fl_RX12_425 dX12_mendsUpTo_86 g3 rfl (by decide) ?_
          let h_2 : Hp := hput r68.2 l0 46 (w32 ((w32 (100 * l4)) + l5))
          refine z_iinc X dX12_mendsUpTo_89 2 rfl (by decide) (ls' := [(2, (0, w32 (l2 + 1))), (0, (2, l0)), (1, (0, l1)), (3, (0, l3)), (4, (0, l4)), (5, (0, l5))]) rfl ?_
          refine z_iload_n X dX12_mendsUpTo_92 0 rfl ?_
          refine z_iconst X dX12_mendsUpTo_93 kc_1 ?_
          refine z_isub X dX12_mendsUpTo_94 ?_
          refine z_iload_n X dX12_mendsUpTo_95 2 rfl ?_
          refine z_icmp_ne X dX12_mendsUpTo_96 rfl (fun hc96 => ?_) (fun hc96 => ?_)
          · have hf := iff' hc96 hf
            exact z_weak [1, 2, 0, 3, 4, 5] rfl (z_M_mendsUpTo_j101 X hd l0 l1 (w32 (l2 + 1)) l3 l4 l5 h_2 _ hf E hx0 hx1 hk)
          · have hf := ift hc96 hf
            cases hf
            exact z_weak [0] rfl (hx0 _ hk)
        · have hf := ift hc71 hf
          refine z_goto X dX12_mendsUpTo_74 rfl ?_
          exact (z_M_mendsUpTo_j101 X hd l0 l1 l2 l3 l4 l5 r68.2 _ hf E hx0 hx1 hk)
      · have hf := ift hc47 hf
        refine z_goto X dX12_mendsUpTo_50 rfl ?_
        exact (z_M_mendsUpTo_j101 X hd l0 l1 l2 l3 l4 l5 h _ hf E hx0 hx1 hk)
set_option maxHeartbeats 4000000 in
set_option maxRecDepth 100000 in
theorem z_M_mendsUpTo_L10 {g : GP} {x : CX} {d : Nat} (X : zX g x RX12 cX12_mendsUpTo 6 (d + 1)) (hd : 3 ≤ d) (l0 l1 l3 : Int)  (E : (Int × Hp) ⊕ (Int × Hp) → Prop) (hx0 : ∀ e : Int × Hp, E (.inl e) → ZV g x 6 e.2 99 [(2, (0, e.1))] []) (hx1 : ∀ e : Int × Hp, E (.inr e) → ZV g x 6 e.2 113 [(2, (0, e.1))] []) (l2 l4 : Int) (h : Hp) (y : (Int × Int × Hp) ⊕ ((Int × Hp) ⊕ (Int × Hp))) (hf : M_mendsUpTo_L10 (d + 1) l0 l1 l3 l2 l4 h = some y) (hk : z_sum (fun q : Int × Int × Hp => ZV g x 6 q.2.2 10 [(0, (2, l0)), (1, (0, l1)), (2, (0, q.1)), (3, (0, l3)), (4, (0, q.2.1))] []) E y) : ZV g x 6 h 10 [(0, (2, l0)), (1, (0, l1)), (2, (0, l2)), (3, (0, l3)), (4, (0, l4))] [] := by
  unfold M_mendsUpTo_L10 at hf
  refine z_iload X dX12_mendsUpTo_10 4 rfl ?_
  refine z_aload_n X dX12_mendsUpTo_12 0 rfl ?_
  obtain ⟨g2, hf⟩ := gif hf
  refine y_get X fl_RX12_171 dX12_mendsUpTo_13 g2 ?_
  refine z_icmp_ge X dX12_mendsUpTo_16 rfl (fun hc16 => ?_) (fun hc16 => ?_)
  · have hf := ift hc16 hf
    cases hf
    exact z_weak [2] rfl (hx1 _ hk)
  · have hf := iff' hc16 hf
    refine z_iconst X dX12_mendsUpTo_19 kc_0 ?_
    refine z_istore X dX12_mendsUpTo_20 (by decide) (ls' := [(5, (0, 0)), (0, (2, l0)), (1, (0, l1)), (2, (0, l2)), (3, (0, l3)), (4, (0, l4))]) rfl ?_
    obtain ⟨q22, hq22, hf⟩ := obE hf
    have hx22_0 : ∀ e99 : Int × Hp, (.inl e99 : (Int × Hp) ⊕ (Int × Hp)) = q22 → ZV g x 6 e99.2 99 [(2, (0, e99.1))] [] := by
      intro e99 hq
      subst hq
      dsimp only at hf
      cases hf
      exact (hx0 _ hk)
    have hx22_1 : ∀ e107 : Int × Hp, (.inr e107 : (Int × Hp) ⊕ (Int × Hp)) = q22 → ZV g x 6 e107.2 107 [(0, (2, l0)), (1, (0, l1)), (2, (0, e107.1)), (3, (0, l3)), (4, (0, l4))] [] := by
      intro e107 hq
      subst hq
      dsimp only at hf
      refine z_iinc X dX12_mendsUpTo_107 4 rfl (by decide) (ls' := [(4, (0, w32 (l4 + 1))), (0, (2, l0)), (1, (0, l1)), (2, (0, e107.1)), (3, (0, l3))]) rfl ?_
      refine z_goto X dX12_mendsUpTo_110 rfl ?_
      cases hf
      exact z_weak [1, 2, 3, 4, 0] rfl hk
    exact z_weak [1, 2, 3, 4, 5, 0] rfl (z_loop (Z := (fun q : Int × Int × Hp => ZV g x 6 q.2.2 22 [(0, (2, l0)), (1, (0, l1)), (2, (0, q.1)), (3, (0, l3)), (4, (0, l4)), (5, (0, q.2.1))] [])) (E := fun q => q = q22) (fun q y hb hk => z_M_mendsUpTo_L22 X hd l0 l1 l3 l4 (fun q => q = q22) hx22_0 hx22_1 q.1 q.2.1 q.2.2 y hb hk) LN (l2, 0, h) q22 hq22 rfl)
set_option maxHeartbeats 4000000 in
set_option maxRecDepth 100000 in
theorem c_M_mendsUpTo {l : Launch} {g : GP} (d : Nat) (hd : 4 ≤ d) (l0 l1 : Int) (h : Hp) (y : Int × Hp) (hf : M_mendsUpTo d l0 l1 h = some y) : zM l yX12_mendsUpTo cX12_mendsUpTo 6 (some .int) d 0 0 g 157 h [(2, l0), (0, l1)] 157 y.2 (some (0, y.1)) := by
  obtain ⟨d, rfl⟩ : ∃ k, d = k + 1 := ⟨d - 1, by omega⟩
  replace hd : 3 ≤ d := Nat.le_of_succ_le_succ hd
  refine z_start (by decide) (Nat.le_of_ble_eq_true rfl) (fun x X hK _ _ _ hl => ?_)
  show ZV g x 6 h 0 [(0, (2, l0)), (1, (0, l1))] []
  unfold M_mendsUpTo at hf
  refine z_iconst X dX12_mendsUpTo_0 kc_0 ?_
  refine z_istore_n X dX12_mendsUpTo_1 (by decide) (ls' := [(2, (0, 0)), (0, (2, l0)), (1, (0, l1))]) rfl ?_
  refine z_aload_n X dX12_mendsUpTo_2 1 rfl ?_
  obtain ⟨g1, hf⟩ := gif hf
  obtain ⟨r3, hr3, hf⟩ := obE hf
  refine y_V1 X cv_RX12_358 dX12_mendsUpTo_3 g1 (c_M_lettersOfAll d (Nat.zero_le _) l0 h r3 hr3) (as := []) rfl rfl (Nat.le_of_ble_eq_true rfl) z00 ?_
  refine z_istore_n X dX12_mendsUpTo_6 (by decide) (ls' := [(3, (0, r3)), (2, (0, 0)), (0, (2, l0)), (1, (0, l1))]) rfl ?_
  refine z_iconst X dX12_mendsUpTo_7 kc_0 ?_
  refine z_istore X dX12_mendsUpTo_8 (by decide) (ls' := [(4, (0, 0)), (3, (0, r3)), (2, (0, 0)), (0, (2, l0)), (1, (0, l1))]) rfl ?_
  obtain ⟨q10, hq10, hf⟩ := obE hf
  have hx10_0 : ∀ e99 : Int × Hp, (.inl e99 : (Int × Hp) ⊕ (Int × Hp)) = q10 → ZV g x 6 e99.2 99 [(2, (0, e99.1))] [] := by
    intro e99 hq
    subst hq
    dsimp only at hf
    refine z_iload_n X dX12_mendsUpTo_99 0 rfl ?_
    cases hf
    exact z_iret X hK dX12_mendsUpTo_100
  have hx10_1 : ∀ e113 : Int × Hp, (.inr e113 : (Int × Hp) ⊕ (Int × Hp)) = q10 → ZV g x 6 e113.2 113 [(2, (0, e113.1))] [] := by
    intro e113 hq
    subst hq
    dsimp only at hf
    refine z_iload_n X dX12_mendsUpTo_113 0 rfl ?_
    cases hf
    exact z_iret X hK dX12_mendsUpTo_114
  exact z_weak [3, 4, 2, 1, 0] rfl (z_loop (Z := (fun q : Int × Int × Hp => ZV g x 6 q.2.2 10 [(0, (2, l0)), (1, (0, l1)), (2, (0, q.1)), (3, (0, r3)), (4, (0, q.2.1))] [])) (E := fun q => q = q10) (fun q y hb hk => z_M_mendsUpTo_L10 X hd l0 l1 r3 (fun q => q = q10) hx10_0 hx10_1 q.1 q.2.1 q.2.2 y hb hk) LN (0, 0, h) q10 hq10 rfl)
set_option maxHeartbeats 4000000 in
set_option maxRecDepth 100000 in
theorem c_M_mends {l : Launch} {g : GP} (d : Nat) (hd : 5 ≤ d) (l0 : Int) (h : Hp) (y : Int × Hp) (hf : M_mends d l0 h = some y) : zM l yX12_mends cX12_mends 1 (some .int) d 0 0 g 157 h [(2, l0)] 157 y.2 (some (0, y.1)) := by
  obtain ⟨d, rfl⟩ : ∃ k, d = k + 1 := ⟨d - 1, by omega⟩
  replace hd : 4 ≤ d := Nat.le_of_succ_le_succ hd
  refine z_start (by decide) (Nat.le_of_ble_eq_true rfl) (fun x X hK _ _ _ hl => ?_)
  show ZV g x 1 h 0 [(0, (2, l0))] []
  unfold M_mends at hf
  refine z_aload_n X dX12_mends_0 0 rfl ?_
  refine z_iconst X dX12_mends_1 kc_m1 ?_
  obtain ⟨g1, hf⟩ := gif hf
  obtain ⟨r2, hr2, hf⟩ := obE hf
  refine y_V1 X cv_RX12_428 dX12_mends_2 g1 (c_M_mendsUpTo d (Nat.le_trans (by decide) hd) l0 ((-1)) h r2 hr2) (as := [(0, (-1))]) rfl rfl (Nat.le_of_ble_eq_true rfl) z00 ?_
  cases hf
  exact z_iret X hK dX12_mends_5
set_option maxHeartbeats 4000000 in
set_option maxRecDepth 100000 in
theorem c_M_mend {l : Launch} {g : GP} (d : Nat) (hd : 5 ≤ d) (l0 l1 : Int) (h : Hp) (y : Int × Hp) (hf : M_mend d l0 l1 h = some y) : zM l yX12_mend cX12_mend 2 (some .int) d 0 0 g 157 h [(2, l0), (0, l1)] 157 y.2 (some (0, y.1)) := by
  obtain ⟨d, rfl⟩ : ∃ k, d = k + 1 := ⟨d - 1, by omega⟩
  replace hd : 4 ≤ d := Nat.le_of_succ_le_succ hd
  refine z_start (by decide) (Nat.le_of_ble_eq_true rfl) (fun x X hK _ _ _ hl => ?_)
  show ZV g x 2 h 0 [(0, (2, l0)), (1, (0, l1))] []
  unfold M_mend at hf
  refine z_iload_n X dX12_mend_0 1 rfl ?_
  refine z_if_ge X dX12_mend_1 rfl (fun hc1 => ?_) (fun hc1 => ?_)
  · have hf := ift hc1 hf
    refine z_aload_n X dX12_mend_7 0 rfl ?_
    refine z_iload_n X dX12_mend_8 1 rfl ?_
    obtain ⟨g1, hf⟩ := gif hf
    obtain ⟨r9, hr9, hf⟩ := obE hf
    refine y_V1 X cv_RX12_428 dX12_mend_9 g1 (c_M_mendsUpTo d (Nat.le_trans (by decide) hd) l0 l1 h r9 hr9) (as := [(0, l1)]) rfl rfl (Nat.le_of_ble_eq_true rfl) z00 ?_
    refine z_iload_n X dX12_mend_12 1 rfl ?_
    refine z_icmp_le X dX12_mend_13 rfl (fun hc13 => ?_) (fun hc13 => ?_)
    · rw [if_pos hc13] at hf
      refine z_iconst X dX12_mend_23 kc_m1 ?_
      cases hf
      exact z_iret X hK dX12_mend_24
    · rw [if_neg hc13] at hf
      refine z_aload_n X dX12_mend_16 0 rfl ?_
      refine y_get X fl_RX12_425 dX12_mend_17 g1 ?_
      refine z_goto X dX12_mend_20 rfl ?_
      cases hf
      exact z_iret X hK dX12_mend_24
  · have hf := iff' hc1 hf
    refine z_bipush X dX12_mend_4 kb_m2 kc_m2 ?_
    cases hf
    exact z_iret X hK dX12_mend_6
set_option maxHeartbeats 4000000 in
set_option maxRecDepth 100000 in
theorem z_M_letterAt_L4 {g : GP} {x : CX} {d : Nat} (X : zX g x RX12 cX12_letterAt 4 (d + 1)) (hd : 0 ≤ d) (l1 : Int) (h : Hp) (E : Int → Prop) (hx0 : ∀ e : Int, E (e) → ZV g x 4 h 21 [(2, (0, e))] []) (l2 l3 : Int) (y : (Int × Int) ⊕ (Int)) (hf : M_letterAt_L4 l1 l2 l3 = some y) (hk : z_sum (fun q : Int × Int => ZV g x 4 h 4 [(1, (0, l1)), (2, (0, q.1)), (3, (0, q.2))] []) E y) : ZV g x 4 h 4 [(1, (0, l1)), (2, (0, l2)), (3, (0, l3))] [] := by
  unfold M_letterAt_L4 at hf
  refine z_iload_n X dX12_letterAt_4 2 rfl ?_
  refine z_iload_n X dX12_letterAt_5 0 rfl ?_
  refine z_icmp_ge X dX12_letterAt_6 rfl (fun hc6 => ?_) (fun hc6 => ?_)
  · have hf := ift hc6 hf
    cases hf
    exact z_weak [1] rfl (hx0 _ hk)
  · have hf := iff' hc6 hf
    refine z_iload_n X dX12_letterAt_9 1 rfl ?_
    refine z_iload_n X dX12_letterAt_10 1 rfl ?_
    refine z_iconst X dX12_letterAt_11 kc_1 ?_
    refine z_isub X dX12_letterAt_12 ?_
    refine z_iand X dX12_letterAt_13 ?_
    refine z_istore_n X dX12_letterAt_14 (by decide) (ls' := [(2, (0, i_and l2 (w32 (l2 - 1)))), (1, (0, l1)), (3, (0, l3))]) rfl ?_
    refine z_iinc X dX12_letterAt_15 2 rfl (by decide) (ls' := [(3, (0, w32 (l3 + 1))), (2, (0, i_and l2 (w32 (l2 - 1)))), (1, (0, l1))]) rfl ?_
    refine z_goto X dX12_letterAt_18 rfl ?_
    cases hf
    exact z_weak [2, 1, 0] rfl hk
set_option maxHeartbeats 4000000 in
set_option maxRecDepth 100000 in
theorem c_M_letterAt {l : Launch} {g : GP} (d : Nat) (hd : 1 ≤ d) (l0 l1 : Int) (h : Hp) (y : Int) (hf : M_letterAt l0 l1 = some y) : zM l yX12_letterAt cX12_letterAt 4 (some .int) d 0 0 g 157 h [(0, l0), (0, l1)] 157 h (some (0, y)) := by
  obtain ⟨d, rfl⟩ : ∃ k, d = k + 1 := ⟨d - 1, by omega⟩
  replace hd : 0 ≤ d := Nat.le_of_succ_le_succ hd
  refine z_start (by decide) (Nat.le_of_ble_eq_true rfl) (fun x X hK _ _ _ hl => ?_)
  show ZV g x 4 h 0 [(0, (0, l0)), (1, (0, l1))] []
  unfold M_letterAt at hf
  refine z_iload_n X dX12_letterAt_0 0 rfl ?_
  refine z_istore_n X dX12_letterAt_1 (by decide) (ls' := [(2, (0, l0)), (0, (0, l0)), (1, (0, l1))]) rfl ?_
  refine z_iconst X dX12_letterAt_2 kc_0 ?_
  refine z_istore_n X dX12_letterAt_3 (by decide) (ls' := [(3, (0, 0)), (2, (0, l0)), (0, (0, l0)), (1, (0, l1))]) rfl ?_
  obtain ⟨q4, hq4, hf⟩ := obE hf
  have hx4_0 : ∀ e21 : Int, (e21 : Int) = q4 → ZV g x 4 h 21 [(2, (0, e21))] [] := by
    intro e21 hq
    subst hq
    refine z_iload_n X dX12_letterAt_21 0 rfl ?_
    obtain ⟨r22, hr22, hf⟩ := obE hf
    refine y_S1 X cs_RX12_442 dX12_letterAt_22 (c_JI_numberOfTrailingZeros d (Nat.zero_le _) e21 h r22 hr22) (as := [(0, e21)]) rfl rfl (Nat.le_of_ble_eq_true rfl) z00 ?_
    cases hf
    exact z_iret X hK dX12_letterAt_25
  exact z_weak [3, 1, 0] rfl (z_loop (Z := (fun q : Int × Int => ZV g x 4 h 4 [(1, (0, l1)), (2, (0, q.1)), (3, (0, q.2))] [])) (E := fun q => q = q4) (fun q y hb hk => z_M_letterAt_L4 X hd l1 h (fun q => q = q4) hx4_0 q.1 q.2 y hb hk) LN (l0, 0) q4 hq4 rfl)
set_option maxHeartbeats 4000000 in
set_option maxRecDepth 100000 in
theorem z_M_sentencesUpTo_L17 {g : GP} {x : CX} {d : Nat} (X : zX g x RX12 cX12_sentencesUpTo 11 (d + 1)) (hd : 3 ≤ d) (l0 l1 l2 l3 l4 : Int) (h : Hp) (E : Int → Prop) (hx0 : ∀ e : Int, E (e) → ZV g x 11 h 36 [(0, (2, l0)), (1, (0, l1)), (2, (0, l2)), (3, (0, l3)), (4, (0, l4)), (5, (0, e))] []) (l5 l6 : Int) (y : (Int × Int) ⊕ (Int)) (hf : M_sentencesUpTo_L17 (d + 1) l0 l1 l2 l3 l4 h l5 l6 = some y) (hk : z_sum (fun q : Int × Int => ZV g x 11 h 17 [(0, (2, l0)), (1, (0, l1)), (2, (0, l2)), (3, (0, l3)), (4, (0, l4)), (5, (0, q.1)), (6, (0, q.2))] []) E y) : ZV g x 11 h 17 [(0, (2, l0)), (1, (0, l1)), (2, (0, l2)), (3, (0, l3)), (4, (0, l4)), (5, (0, l5)), (6, (0, l6))] [] := by
  unfold M_sentencesUpTo_L17 at hf
  refine z_iload X dX12_sentencesUpTo_17 6 rfl ?_
  refine z_iload_n X dX12_sentencesUpTo_19 1 rfl ?_
  refine z_icmp_ge X dX12_sentencesUpTo_20 rfl (fun hc20 => ?_) (fun hc20 => ?_)
  · have hf := ift hc20 hf
    cases hf
    exact z_weak [0, 1, 2, 3, 4, 5] rfl (hx0 _ hk)
  · have hf := iff' hc20 hf
    refine z_iload X dX12_sentencesUpTo_23 5 rfl ?_
    refine z_iload X dX12_sentencesUpTo_25 4 rfl ?_
    refine z_imul X dX12_sentencesUpTo_27 ?_
    refine z_istore X dX12_sentencesUpTo_28 (by decide) (ls' := [(5, (0, w32 (l5 * l4))), (0, (2, l0)), (1, (0, l1)), (2, (0, l2)), (3, (0, l3)), (4, (0, l4)), (6, (0, l6))]) rfl ?_
    refine z_iinc X dX12_sentencesUpTo_30 6 rfl (by decide) (ls' := [(6, (0, w32 (l6 + 1))), (5, (0, w32 (l5 * l4))), (0, (2, l0)), (1, (0, l1)), (2, (0, l2)), (3, (0, l3)), (4, (0, l4))]) rfl ?_
    refine z_goto X dX12_sentencesUpTo_33 rfl ?_
    cases hf
    exact z_weak [2, 3, 4, 5, 6, 1, 0] rfl hk
set_option maxHeartbeats 4000000 in
set_option maxRecDepth 100000 in
theorem z_M_sentencesUpTo_L64 {g : GP} {x : CX} {d : Nat} (X : zX g x RX12 cX12_sentencesUpTo 11 (d + 1)) (hd : 3 ≤ d) (l0 l1 l2 l3 l4 l5 l6 l7 : Int)  (E : Int × Hp → Prop) (hx0 : ∀ e : Int × Hp, E (e) → ZV g x 11 e.2 119 [(0, (2, l0)), (1, (0, l1)), (2, (0, l2)), (3, (0, l3)), (4, (0, l4)), (5, (0, l5)), (6, (0, l6)), (7, (0, l7)), (8, (0, e.1))] []) (l8 l9 l10 : Int) (h : Hp) (y : (Int × Int × Int × Hp) ⊕ (Int × Hp)) (hf : M_sentencesUpTo_L64 (d + 1) l0 l1 l2 l3 l4 l5 l6 l7 l8 l9 l10 h = some y) (hk : z_sum (fun q : Int × Int × Int × Hp => ZV g x 11 q.2.2.2 64 [(0, (2, l0)), (1, (0, l1)), (2, (0, l2)), (3, (0, l3)), (4, (0, l4)), (5, (0, l5)), (6, (0, l6)), (7, (0, l7)), (8, (0, q.1)), (9, (0, q.2.1)), (10, (0, q.2.2.1))] []) E y) : ZV g x 11 h 64 [(0, (2, l0)), (1, (0, l1)), (2, (0, l2)), (3, (0, l3)), (4, (0, l4)), (5, (0, l5)), (6, (0, l6)), (7, (0, l7)), (8, (0, l8)), (9, (0, l9)), (10, (0, l10))] [] := by
  unfold M_sentencesUpTo_L64 at hf
  refine z_iload X dX12_sentencesUpTo_64 10 rfl ?_
  refine z_iload_n X dX12_sentencesUpTo_66 1 rfl ?_
  refine z_icmp_ge X dX12_sentencesUpTo_67 rfl (fun hc67 => ?_) (fun hc67 => ?_)
  · have hf := ift hc67 hf
    cases hf
    exact z_weak [0, 1, 2, 3, 4, 5, 6, 7, 8] rfl (hx0 _ hk)
  · have hf := iff' hc67 hf
    refine z_iload X dX12_sentencesUpTo_70 9 rfl ?_
    refine z_iload X dX12_sentencesUpTo_72 4 rfl ?_
    obtain ⟨g3, hf⟩ := gif hf
    refine z_idiv X dX12_sentencesUpTo_74 g3 ?_
    refine z_istore X dX12_sentencesUpTo_75 (by decide) (ls' := [(9, (0, w32 (Int.tdiv l9 l4))), (0, (2, l0)), (1, (0, l1)), (2, (0, l2)), (3, (0, l3)), (4, (0, l4)), (5, (0, l5)), (6, (0, l6)), (7, (0, l7)), (8, (0, l8)), (10, (0, l10))]) rfl ?_
    refine z_aload_n X dX12_sentencesUpTo_77 1 rfl ?_
    obtain ⟨g4, hf⟩ := gif hf
    refine y_get X fl_RX12_182 dX12_sentencesUpTo_78 g4 ?_
    refine z_iload X dX12_sentencesUpTo_81 10 rfl ?_
    refine z_iload_n X dX12_sentencesUpTo_83 4 rfl ?_
    refine z_iload X dX12_sentencesUpTo_84 8 rfl ?_
    refine z_iload X dX12_sentencesUpTo_86 0 rfl ?_
    obtain ⟨g5, hf⟩ := gif hf
    refine z_idiv X dX12_sentencesUpTo_88 g5 ?_
    refine z_iload X dX12_sentencesUpTo_89 5 rfl ?_
    refine z_irem X dX12_sentencesUpTo_91 g3 ?_
    obtain ⟨r92, hr92, hf⟩ := obE hf
    refine y_S1 X cs_RX12_436 dX12_sentencesUpTo_92 (c_M_letterAt d (Nat.le_trans (by decide) hd) l3 (w32 (Int.tmod (w32 (Int.tdiv l7 (w32 (Int.tdiv l9 l4)))) l4)) h r92 hr92) (as := [(0, l3), (0, w32 (Int.tmod (w32 (Int.tdiv l7 (w32 (Int.tdiv l9 l4)))) l4))]) rfl rfl (Nat.le_of_ble_eq_true rfl) z00 ?_
    obtain ⟨g6, hf⟩ := gif hf
    refine y_iast X dX12_sentencesUpTo_95 g6 ?_
    let h_2 : Hp := hput h (h l0 33) l10 r92
    refine z_bipush X dX12_sentencesUpTo_96 kb_27 kc_27 ?_
    refine z_iload X dX12_sentencesUpTo_98 9 rfl ?_
    refine z_imul X dX12_sentencesUpTo_100 ?_
    refine z_aload_n X dX12_sentencesUpTo_101 1 rfl ?_
    refine y_get X fl_RX12_182 dX12_sentencesUpTo_102 g4 ?_
    refine z_iload X dX12_sentencesUpTo_105 10 rfl ?_
    obtain ⟨g7, hf⟩ := gif hf
    refine y_iald X dX12_sentencesUpTo_107 g7 ?_
    refine z_iadd X dX12_sentencesUpTo_108 ?_
    refine z_iconst X dX12_sentencesUpTo_109 kc_1 ?_
    refine z_iadd X dX12_sentencesUpTo_110 ?_
    refine z_istore X dX12_sentencesUpTo_111 (by decide) (ls' := [(8, (0, w32 ((w32 ((w32 (27 * l8)) + (h_2 (h_2 l0 33) l10))) + 1))), (9, (0, w32 (Int.tdiv l9 l4))), (0, (2, l0)), (1, (0, l1)), (2, (0, l2)), (3, (0, l3)), (4, (0, l4)), (5, (0, l5)), (6, (0, l6)), (7, (0, l7)), (10, (0, l10))]) rfl ?_
    refine z_iinc X dX12_sentencesUpTo_113 10 rfl (by decide) (ls' := [(10, (0, w32 (l10 + 1))), (8, (0, w32 ((w32 ((w32 (27 * l8)) + (h_2 (h_2 l0 33) l10))) + 1))), (9, (0, w32 (Int.tdiv l9 l4))), (0, (2, l0)), (1, (0, l1)), (2, (0, l2)), (3, (0, l3)), (4, (0, l4)), (5, (0, l5)), (6, (0, l6)), (7, (0, l7))]) rfl ?_
    refine z_goto X dX12_sentencesUpTo_116 rfl ?_
    cases hf
    exact z_weak [3, 4, 5, 6, 7, 8, 9, 10, 1, 2, 0] rfl hk
set_option maxHeartbeats 4000000 in
set_option maxRecDepth 100000 in
theorem z_M_sentencesUpTo_j149 {g : GP} {x : CX} {d : Nat} (X : zX g x RX12 cX12_sentencesUpTo 11 (d + 1)) (hd : 3 ≤ d) (l0 l1 l2 l3 l4 l5 l6 l7 : Int) (h : Hp) (y : (Int × Int × Hp) ⊕ ((Int × Hp) ⊕ (Int × Hp))) (hf : M_sentencesUpTo_j149 (d + 1) l0 l1 l2 l3 l4 l5 l6 l7 h = some y) (E : (Int × Hp) ⊕ (Int × Hp) → Prop) (hx0 : ∀ e : Int × Hp, E (.inl e) → ZV g x 11 e.2 146 [(6, (0, e.1))] []) (hx1 : ∀ e : Int × Hp, E (.inr e) → ZV g x 11 e.2 155 [(6, (0, e.1))] []) (hk : z_sum (fun q : Int × Int × Hp => ZV g x 11 q.2.2 42 [(0, (2, l0)), (1, (0, l1)), (2, (0, l2)), (3, (0, l3)), (4, (0, l4)), (5, (0, l5)), (6, (0, q.1)), (7, (0, q.2.1))] []) E y) : ZV g x 11 h 149 [(0, (2, l0)), (1, (0, l1)), (2, (0, l2)), (3, (0, l3)), (4, (0, l4)), (5, (0, l5)), (6, (0, l6)), (7, (0, l7))] [] := by
  unfold M_sentencesUpTo_j149 at hf
  refine z_iinc X dX12_sentencesUpTo_149 7 rfl (by decide) (ls' := [(7, (0, w32 (l7 + 1))), (0, (2, l0)), (1, (0, l1)), (2, (0, l2)), (3, (0, l3)), (4, (0, l4)), (5, (0, l5)), (6, (0, l6))]) rfl ?_
  refine z_goto X dX12_sentencesUpTo_152 rfl ?_
  cases hf
  exact z_weak [1, 2, 3, 4, 5, 6, 7, 0] rfl hk
set_option maxHeartbeats 4000000 in
set_option maxRecDepth 100000 in
theorem z_M_sentencesUpTo_L42 {g : GP} {x : CX} {d : Nat} (X : zX g x RX12 cX12_sentencesUpTo 11 (d + 1)) (hd : 3 ≤ d) (l0 l1 l2 l3 l4 l5 : Int)  (E : (Int × Hp) ⊕ (Int × Hp) → Prop) (hx0 : ∀ e : Int × Hp, E (.inl e) → ZV g x 11 e.2 146 [(6, (0, e.1))] []) (hx1 : ∀ e : Int × Hp, E (.inr e) → ZV g x 11 e.2 155 [(6, (0, e.1))] []) (l6 l7 : Int) (h : Hp) (y : (Int × Int × Hp) ⊕ ((Int × Hp) ⊕ (Int × Hp))) (hf : M_sentencesUpTo_L42 (d + 1) l0 l1 l2 l3 l4 l5 l6 l7 h = some y) (hk : z_sum (fun q : Int × Int × Hp => ZV g x 11 q.2.2 42 [(0, (2, l0)), (1, (0, l1)), (2, (0, l2)), (3, (0, l3)), (4, (0, l4)), (5, (0, l5)), (6, (0, q.1)), (7, (0, q.2.1))] []) E y) : ZV g x 11 h 42 [(0, (2, l0)), (1, (0, l1)), (2, (0, l2)), (3, (0, l3)), (4, (0, l4)), (5, (0, l5)), (6, (0, l6)), (7, (0, l7))] [] := by
  unfold M_sentencesUpTo_L42 at hf
  refine z_iload X dX12_sentencesUpTo_42 7 rfl ?_
  refine z_iload X dX12_sentencesUpTo_44 5 rfl ?_
  refine z_icmp_ge X dX12_sentencesUpTo_46 rfl (fun hc46 => ?_) (fun hc46 => ?_)
  · have hf := ift hc46 hf
    cases hf
    exact z_weak [6] rfl (hx1 _ hk)
  · have hf := iff' hc46 hf
    refine z_aload_n X dX12_sentencesUpTo_49 0 rfl ?_
    refine z_iload_n X dX12_sentencesUpTo_50 1 rfl ?_
    obtain ⟨g2, hf⟩ := gif hf
    refine y_put X fl_RX12_249 dX12_sentencesUpTo_51 g2 rfl (by decide) ?_
    let h_1 : Hp := hput h l0 34 l1
    refine z_iconst X dX12_sentencesUpTo_54 kc_0 ?_
    refine z_istore X dX12_sentencesUpTo_55 (by decide) (ls' := [(8, (0, 0)), (0, (2, l0)), (1, (0, l1)), (2, (0, l2)), (3, (0, l3)), (4, (0, l4)), (5, (0, l5)), (6, (0, l6)), (7, (0, l7))]) rfl ?_
    refine z_iload X dX12_sentencesUpTo_57 6 rfl ?_
    refine z_istore X dX12_sentencesUpTo_59 (by decide) (ls' := [(9, (0, l5)), (8, (0, 0)), (0, (2, l0)), (1, (0, l1)), (2, (0, l2)), (3, (0, l3)), (4, (0, l4)), (5, (0, l5)), (6, (0, l6)), (7, (0, l7))]) rfl ?_
    refine z_iconst X dX12_sentencesUpTo_61 kc_0 ?_
    refine z_istore X dX12_sentencesUpTo_62 (by decide) (ls' := [(10, (0, 0)), (9, (0, l5)), (8, (0, 0)), (0, (2, l0)), (1, (0, l1)), (2, (0, l2)), (3, (0, l3)), (4, (0, l4)), (5, (0, l5)), (6, (0, l6)), (7, (0, l7))]) rfl ?_
    obtain ⟨q64, hq64, hf⟩ := obE hf
    have hx64_0 : ∀ e119 : Int × Hp, (e119 : Int × Hp) = q64 → ZV g x 11 e119.2 119 [(0, (2, l0)), (1, (0, l1)), (2, (0, l2)), (3, (0, l3)), (4, (0, l4)), (5, (0, l5)), (6, (0, l6)), (7, (0, l7)), (8, (0, e119.1))] [] := by
      intro e119 hq
      subst hq
      refine z_aload_n X dX12_sentencesUpTo_119 0 rfl ?_
      obtain ⟨r120, hr120, hf⟩ := obE hf
      refine y_V1 X cv_RX12_422 dX12_sentencesUpTo_120 g2 (c_M_readsRow d (Nat.le_trans (by decide) hd) l0 e119.2 r120 hr120) (as := []) rfl rfl (Nat.le_of_ble_eq_true rfl) z00 ?_
      refine z_if_ne X dX12_sentencesUpTo_123 rfl (fun hc123 => ?_) (fun hc123 => ?_)
      · have hf := iff' hc123 hf
        refine z_aload_n X dX12_sentencesUpTo_129 0 rfl ?_
        refine z_iload X dX12_sentencesUpTo_130 8 rfl ?_
        refine y_put X fl_RX12_439 dX12_sentencesUpTo_132 g2 rfl (by decide) ?_
        let h_3 : Hp := hput r120.2 l0 47 e119.1
        refine z_iinc X dX12_sentencesUpTo_135 6 rfl (by decide) (ls' := [(6, (0, w32 (l6 + 1))), (0, (2, l0)), (1, (0, l1)), (2, (0, l2)), (3, (0, l3)), (4, (0, l4)), (5, (0, l5)), (7, (0, l7)), (8, (0, e119.1))]) rfl ?_
        refine z_iload X dX12_sentencesUpTo_138 0 rfl ?_
        refine z_iconst X dX12_sentencesUpTo_140 kc_1 ?_
        refine z_isub X dX12_sentencesUpTo_141 ?_
        refine z_iload_n X dX12_sentencesUpTo_142 3 rfl ?_
        refine z_icmp_ne X dX12_sentencesUpTo_143 rfl (fun hc143 => ?_) (fun hc143 => ?_)
        · have hf := iff' hc143 hf
          exact z_weak [1, 2, 3, 4, 5, 6, 0, 7] rfl (z_M_sentencesUpTo_j149 X hd l0 l1 l2 l3 l4 l5 (w32 (l6 + 1)) l7 h_3 _ hf E hx0 hx1 hk)
        · have hf := ift hc143 hf
          cases hf
          exact z_weak [0] rfl (hx0 _ hk)
      · have hf := ift hc123 hf
        refine z_goto X dX12_sentencesUpTo_126 rfl ?_
        exact z_weak [0, 1, 2, 3, 4, 5, 6, 7] rfl (z_M_sentencesUpTo_j149 X hd l0 l1 l2 l3 l4 l5 l6 l7 r120.2 _ hf E hx0 hx1 hk)
    exact z_weak [3, 4, 5, 6, 7, 8, 9, 10, 2, 1, 0] rfl (z_loop (Z := (fun q : Int × Int × Int × Hp => ZV g x 11 q.2.2.2 64 [(0, (2, l0)), (1, (0, l1)), (2, (0, l2)), (3, (0, l3)), (4, (0, l4)), (5, (0, l5)), (6, (0, l6)), (7, (0, l7)), (8, (0, q.1)), (9, (0, q.2.1)), (10, (0, q.2.2.1))] [])) (E := fun q => q = q64) (fun q y hb hk => z_M_sentencesUpTo_L64 X hd l0 l1 l2 l3 l4 l5 l6 l7 (fun q => q = q64) hx64_0 q.1 q.2.1 q.2.2.1 q.2.2.2 y hb hk) LN (0, l5, 0, h_1) q64 hq64 rfl)
set_option maxHeartbeats 4000000 in
set_option maxRecDepth 100000 in
theorem c_M_sentencesUpTo {l : Launch} {g : GP} (d : Nat) (hd : 4 ≤ d) (l0 l1 l2 : Int) (h : Hp) (y : Int × Hp) (hf : M_sentencesUpTo d l0 l1 l2 h = some y) : zM l yX12_sentencesUpTo cX12_sentencesUpTo 11 (some .int) d 0 0 g 157 h [(2, l0), (0, l1), (0, l2)] 157 y.2 (some (0, y.1)) := by
  obtain ⟨d, rfl⟩ : ∃ k, d = k + 1 := ⟨d - 1, by omega⟩
  replace hd : 3 ≤ d := Nat.le_of_succ_le_succ hd
  refine z_start (by decide) (Nat.le_of_ble_eq_true rfl) (fun x X hK _ _ _ hl => ?_)
  show ZV g x 11 h 0 [(0, (2, l0)), (1, (0, l1)), (2, (0, l2))] []
  unfold M_sentencesUpTo at hf
  refine z_aload_n X dX12_sentencesUpTo_0 0 rfl ?_
  obtain ⟨g1, hf⟩ := gif hf
  obtain ⟨r1, hr1, hf⟩ := obE hf
  refine y_V1 X cv_RX12_358 dX12_sentencesUpTo_1 g1 (c_M_lettersOfAll d (Nat.zero_le _) l0 h r1 hr1) (as := []) rfl rfl (Nat.le_of_ble_eq_true rfl) z00 ?_
  refine z_istore_n X dX12_sentencesUpTo_4 (by decide) (ls' := [(3, (0, r1)), (0, (2, l0)), (1, (0, l1)), (2, (0, l2))]) rfl ?_
  refine z_iload_n X dX12_sentencesUpTo_5 0 rfl ?_
  obtain ⟨r6, hr6, hf⟩ := obE hf
  refine y_S1 X cs_RX12_431 dX12_sentencesUpTo_6 (c_JI_bitCount d (Nat.zero_le _) r1 h r6 hr6) (as := [(0, r1)]) rfl rfl (Nat.le_of_ble_eq_true rfl) z00 ?_
  refine z_istore X dX12_sentencesUpTo_9 (by decide) (ls' := [(4, (0, r6)), (3, (0, r1)), (0, (2, l0)), (1, (0, l1)), (2, (0, l2))]) rfl ?_
  refine z_iconst X dX12_sentencesUpTo_11 kc_1 ?_
  refine z_istore X dX12_sentencesUpTo_12 (by decide) (ls' := [(5, (0, 1)), (4, (0, r6)), (3, (0, r1)), (0, (2, l0)), (1, (0, l1)), (2, (0, l2))]) rfl ?_
  refine z_iconst X dX12_sentencesUpTo_14 kc_0 ?_
  refine z_istore X dX12_sentencesUpTo_15 (by decide) (ls' := [(6, (0, 0)), (5, (0, 1)), (4, (0, r6)), (3, (0, r1)), (0, (2, l0)), (1, (0, l1)), (2, (0, l2))]) rfl ?_
  obtain ⟨q17, hq17, hf⟩ := obE hf
  have hx17_0 : ∀ e36 : Int, (e36 : Int) = q17 → ZV g x 11 h 36 [(0, (2, l0)), (1, (0, l1)), (2, (0, l2)), (3, (0, r1)), (4, (0, r6)), (5, (0, e36))] [] := by
    intro e36 hq
    subst hq
    refine z_iconst X dX12_sentencesUpTo_36 kc_0 ?_
    refine z_istore X dX12_sentencesUpTo_37 (by decide) (ls' := [(6, (0, 0)), (0, (2, l0)), (1, (0, l1)), (2, (0, l2)), (3, (0, r1)), (4, (0, r6)), (5, (0, e36))]) rfl ?_
    refine z_iconst X dX12_sentencesUpTo_39 kc_0 ?_
    refine z_istore X dX12_sentencesUpTo_40 (by decide) (ls' := [(7, (0, 0)), (6, (0, 0)), (0, (2, l0)), (1, (0, l1)), (2, (0, l2)), (3, (0, r1)), (4, (0, r6)), (5, (0, e36))]) rfl ?_
    obtain ⟨q42, hq42, hf⟩ := obE hf
    have hx42_0 : ∀ e146 : Int × Hp, (.inl e146 : (Int × Hp) ⊕ (Int × Hp)) = q42 → ZV g x 11 e146.2 146 [(6, (0, e146.1))] [] := by
      intro e146 hq
      subst hq
      dsimp only at hf
      refine z_iload X dX12_sentencesUpTo_146 0 rfl ?_
      cases hf
      exact z_iret X hK dX12_sentencesUpTo_148
    have hx42_1 : ∀ e155 : Int × Hp, (.inr e155 : (Int × Hp) ⊕ (Int × Hp)) = q42 → ZV g x 11 e155.2 155 [(6, (0, e155.1))] [] := by
      intro e155 hq
      subst hq
      dsimp only at hf
      refine z_iload X dX12_sentencesUpTo_155 0 rfl ?_
      cases hf
      exact z_iret X hK dX12_sentencesUpTo_157
    exact z_weak [2, 3, 4, 5, 6, 7, 1, 0] rfl (z_loop (Z := (fun q : Int × Int × Hp => ZV g x 11 q.2.2 42 [(0, (2, l0)), (1, (0, l1)), (2, (0, l2)), (3, (0, r1)), (4, (0, r6)), (5, (0, e36)), (6, (0, q.1)), (7, (0, q.2.1))] [])) (E := fun q => q = q42) (fun q y hb hk => z_M_sentencesUpTo_L42 X hd l0 l1 l2 r1 r6 e36 (fun q => q = q42) hx42_0 hx42_1 q.1 q.2.1 q.2.2 y hb hk) LN (0, 0, h) q42 hq42 rfl)
  exact z_weak [4, 5, 6, 3, 2, 1, 0] rfl (z_loop (Z := (fun q : Int × Int => ZV g x 11 h 17 [(0, (2, l0)), (1, (0, l1)), (2, (0, l2)), (3, (0, r1)), (4, (0, r6)), (5, (0, q.1)), (6, (0, q.2))] [])) (E := fun q => q = q17) (fun q y hb hk => z_M_sentencesUpTo_L17 X hd l0 l1 l2 r1 r6 h (fun q => q = q17) hx17_0 q.1 q.2 y hb hk) LN (1, 0) q17 hq17 rfl)
set_option maxHeartbeats 4000000 in
set_option maxRecDepth 100000 in
theorem c_M_sentences {l : Launch} {g : GP} (d : Nat) (hd : 5 ≤ d) (l0 l1 : Int) (h : Hp) (y : Int × Hp) (hf : M_sentences d l0 l1 h = some y) : zM l yX12_sentences cX12_sentences 2 (some .int) d 0 0 g 157 h [(2, l0), (0, l1)] 157 y.2 (some (0, y.1)) := by
  obtain ⟨d, rfl⟩ : ∃ k, d = k + 1 := ⟨d - 1, by omega⟩
  replace hd : 4 ≤ d := Nat.le_of_succ_le_succ hd
  refine z_start (by decide) (Nat.le_of_ble_eq_true rfl) (fun x X hK _ _ _ hl => ?_)
  show ZV g x 2 h 0 [(0, (2, l0)), (1, (0, l1))] []
  unfold M_sentences at hf
  refine z_iload_n X dX12_sentences_0 1 rfl ?_
  refine z_i2l X dX12_sentences_1 ?_
  refine z_lconst0 X dX12_sentences_2 ?_
  refine z_ldc2 X kj_RX12_445 kl_4 dX12_sentences_3 ?_
  obtain ⟨r6, hr6, hf⟩ := obE hf
  refine y_S1 X cs_RX12_14 dX12_sentences_6 (c_M_in d (Nat.zero_le _) l1 0 4 h r6 hr6) (as := [(1, l1), (1, 0), (1, 4)]) rfl rfl (Nat.le_of_ble_eq_true rfl) z00 ?_
  refine z_if_ne X dX12_sentences_9 rfl (fun hc9 => ?_) (fun hc9 => ?_)
  · have hf := iff' hc9 hf
    refine z_aload_n X dX12_sentences_15 0 rfl ?_
    obtain ⟨g1, hf⟩ := gif hf
    obtain ⟨r16, hr16, hf⟩ := obE hf
    refine y_V1 X cv_RX12_358 dX12_sentences_16 g1 (c_M_lettersOfAll d (Nat.zero_le _) l0 h r16 hr16) (as := []) rfl rfl (Nat.le_of_ble_eq_true rfl) z00 ?_
    obtain ⟨r19, hr19, hf⟩ := obE hf
    refine y_S1 X cs_RX12_431 dX12_sentences_19 (c_JI_bitCount d (Nat.zero_le _) r16 h r19 hr19) (as := [(0, r16)]) rfl rfl (Nat.le_of_ble_eq_true rfl) z00 ?_
    refine z_iconst X dX12_sentences_22 kc_4 ?_
    refine z_icmp_le X dX12_sentences_23 rfl (fun hc23 => ?_) (fun hc23 => ?_)
    · have hf := ift hc23 hf
      refine z_aload_n X dX12_sentences_31 0 rfl ?_
      refine z_iload_n X dX12_sentences_32 1 rfl ?_
      refine z_iconst X dX12_sentences_33 kc_m1 ?_
      obtain ⟨r34, hr34, hf⟩ := obE hf
      refine y_V1 X cv_RX12_447 dX12_sentences_34 g1 (c_M_sentencesUpTo d (Nat.le_trans (by decide) hd) l0 l1 ((-1)) h r34 hr34) (as := [(0, l1), (0, (-1))]) rfl rfl (Nat.le_of_ble_eq_true rfl) z00 ?_
      cases hf
      exact z_iret X hK dX12_sentences_37
    · have hf := iff' hc23 hf
      refine z_bipush X dX12_sentences_26 kb_m5 kc_m5 ?_
      refine z_goto X dX12_sentences_28 rfl ?_
      cases hf
      exact z_iret X hK dX12_sentences_37
  · have hf := ift hc9 hf
    refine z_bipush X dX12_sentences_12 kb_m2 kc_m2 ?_
    cases hf
    exact z_iret X hK dX12_sentences_14
set_option maxHeartbeats 4000000 in
set_option maxRecDepth 100000 in
theorem c_M_sentence {l : Launch} {g : GP} (d : Nat) (hd : 5 ≤ d) (l0 l1 l2 : Int) (h : Hp) (y : Int × Hp) (hf : M_sentence d l0 l1 l2 h = some y) : zM l yX12_sentence cX12_sentence 3 (some .int) d 0 0 g 157 h [(2, l0), (0, l1), (0, l2)] 157 y.2 (some (0, y.1)) := by
  obtain ⟨d, rfl⟩ : ∃ k, d = k + 1 := ⟨d - 1, by omega⟩
  replace hd : 4 ≤ d := Nat.le_of_succ_le_succ hd
  refine z_start (by decide) (Nat.le_of_ble_eq_true rfl) (fun x X hK _ _ _ hl => ?_)
  show ZV g x 3 h 0 [(0, (2, l0)), (1, (0, l1)), (2, (0, l2))] []
  unfold M_sentence at hf
  refine z_iload_n X dX12_sentence_0 1 rfl ?_
  refine z_i2l X dX12_sentence_1 ?_
  refine z_lconst0 X dX12_sentence_2 ?_
  refine z_ldc2 X kj_RX12_445 kl_4 dX12_sentence_3 ?_
  obtain ⟨r6, hr6, hf⟩ := obE hf
  refine y_S1 X cs_RX12_14 dX12_sentence_6 (c_M_in d (Nat.zero_le _) l1 0 4 h r6 hr6) (as := [(1, l1), (1, 0), (1, 4)]) rfl rfl (Nat.le_of_ble_eq_true rfl) z00 ?_
  refine z_if_eq X dX12_sentence_9 rfl (fun hc9 => ?_) (fun hc9 => ?_)
  · have hf := ift hc9 hf
    refine z_bipush X dX12_sentence_16 kb_m2 kc_m2 ?_
    cases hf
    exact z_iret X hK dX12_sentence_18
  · have hf := iff' hc9 hf
    refine z_iload_n X dX12_sentence_12 2 rfl ?_
    refine z_if_ge X dX12_sentence_13 rfl (fun hc13 => ?_) (fun hc13 => ?_)
    · have hf := ift hc13 hf
      refine z_aload_n X dX12_sentence_19 0 rfl ?_
      obtain ⟨g1, hf⟩ := gif hf
      obtain ⟨r20, hr20, hf⟩ := obE hf
      refine y_V1 X cv_RX12_358 dX12_sentence_20 g1 (c_M_lettersOfAll d (Nat.zero_le _) l0 h r20 hr20) (as := []) rfl rfl (Nat.le_of_ble_eq_true rfl) z00 ?_
      obtain ⟨r23, hr23, hf⟩ := obE hf
      refine y_S1 X cs_RX12_431 dX12_sentence_23 (c_JI_bitCount d (Nat.zero_le _) r20 h r23 hr23) (as := [(0, r20)]) rfl rfl (Nat.le_of_ble_eq_true rfl) z00 ?_
      refine z_iconst X dX12_sentence_26 kc_4 ?_
      refine z_icmp_le X dX12_sentence_27 rfl (fun hc27 => ?_) (fun hc27 => ?_)
      · have hf := ift hc27 hf
        refine z_aload_n X dX12_sentence_33 0 rfl ?_
        refine z_iload_n X dX12_sentence_34 1 rfl ?_
        refine z_iload_n X dX12_sentence_35 2 rfl ?_
        obtain ⟨r36, hr36, hf⟩ := obE hf
        refine y_V1 X cv_RX12_447 dX12_sentence_36 g1 (c_M_sentencesUpTo d (Nat.le_trans (by decide) hd) l0 l1 l2 h r36 hr36) (as := [(0, l1), (0, l2)]) rfl rfl (Nat.le_of_ble_eq_true rfl) z00 ?_
        refine z_iload_n X dX12_sentence_39 2 rfl ?_
        refine z_icmp_le X dX12_sentence_40 rfl (fun hc40 => ?_) (fun hc40 => ?_)
        · rw [if_pos hc40] at hf
          refine z_iconst X dX12_sentence_50 kc_m1 ?_
          cases hf
          exact z_iret X hK dX12_sentence_51
        · rw [if_neg hc40] at hf
          refine z_aload_n X dX12_sentence_43 0 rfl ?_
          refine y_get X fl_RX12_439 dX12_sentence_44 g1 ?_
          refine z_goto X dX12_sentence_47 rfl ?_
          cases hf
          exact z_iret X hK dX12_sentence_51
      · have hf := iff' hc27 hf
        refine z_bipush X dX12_sentence_30 kb_m5 kc_m5 ?_
        cases hf
        exact z_iret X hK dX12_sentence_32
    · have hf := iff' hc13 hf
      refine z_bipush X dX12_sentence_16 kb_m2 kc_m2 ?_
      cases hf
      exact z_iret X hK dX12_sentence_18
set_option maxHeartbeats 4000000 in
set_option maxRecDepth 100000 in
theorem z_M_newStep_L41 {g : GP} {x : CX} {d : Nat} (X : zX g x RX12 cX12_newStep 6 d) (l0 l2 l3 l4 : Int)  (E : Hp → Prop) (hx0 : ∀ e : Hp, E (e) → ZV g x 6 e 68 [(0, (2, l0)), (2, (0, l2)), (3, (0, l3)), (4, (0, l4))] []) (l5 : Int) (h : Hp) (y : (Int × Hp) ⊕ (Hp)) (hf : M_newStep_L41 l0 l2 l3 l4 l5 h = some y) (hk : z_sum (fun q : Int × Hp => ZV g x 6 q.2 41 [(0, (2, l0)), (2, (0, l2)), (3, (0, l3)), (4, (0, l4)), (5, (0, q.1))] []) E y) : ZV g x 6 h 41 [(0, (2, l0)), (2, (0, l2)), (3, (0, l3)), (4, (0, l4)), (5, (0, l5))] [] := by
  unfold M_newStep_L41 at hf
  refine z_iload X dX12_newStep_41 4 rfl ?_
  refine z_bipush X dX12_newStep_43 kb_12 kc_12 ?_
  refine z_icmp_ge X dX12_newStep_45 rfl (fun hc45 => ?_) (fun hc45 => ?_)
  · have hf := ift hc45 hf
    cases hf
    exact z_weak [0, 1, 2, 3] rfl (hx0 _ hk)
  · have hf := iff' hc45 hf
    refine z_aload_n X dX12_newStep_48 0 rfl ?_
    obtain ⟨g6, hf⟩ := gif hf
    refine y_get X fl_RX12_226 dX12_newStep_49 g6 ?_
    refine z_bipush X dX12_newStep_52 kb_12 kc_12 ?_
    refine z_iload X dX12_newStep_54 3 rfl ?_
    refine z_imul X dX12_newStep_56 ?_
    refine z_iload X dX12_newStep_57 4 rfl ?_
    refine z_iadd X dX12_newStep_59 ?_
    refine z_iconst X dX12_newStep_60 kc_m1 ?_
    obtain ⟨g7, hf⟩ := gif hf
    refine y_iast X dX12_newStep_61 g7 ?_
    let h_5 : Hp := hput h (h l0 53) (w32 ((w32 (12 * l4)) + l5)) ((-1))
    refine z_iinc X dX12_newStep_62 4 rfl (by decide) (ls' := [(5, (0, w32 (l5 + 1))), (0, (2, l0)), (2, (0, l2)), (3, (0, l3)), (4, (0, l4))]) rfl ?_
    refine z_goto X dX12_newStep_65 rfl ?_
    cases hf
    exact z_weak [1, 2, 3, 4, 0] rfl hk
set_option maxHeartbeats 4000000 in
set_option maxRecDepth 100000 in
theorem z_M_newStep_j86 {g : GP} {x : CX} {d : Nat} (X : zX g x RX12 cX12_newStep 6 d) (l0 l4 : Int) (h : Hp) (y : Int × Hp) (hf : M_newStep_j86 l0 l4 h = some y) (hK : zE g x (some .int) 0 0 157 y.2 (some (0, y.1))) : ZV g x 6 h 86 [(0, (2, l0)), (4, (0, l4))] [] := by
  unfold M_newStep_j86 at hf
  refine z_aload_n X dX12_newStep_86 0 rfl ?_
  refine z_dup X ne2 dX12_newStep_87 ?_
  obtain ⟨g8, hf⟩ := gif hf
  refine y_get X fl_RX12_450 dX12_newStep_88 g8 ?_
  refine z_iconst X dX12_newStep_91 kc_1 ?_
  refine z_iadd X dX12_newStep_92 ?_
  refine y_put X fl_RX12_450 dX12_newStep_93 g8 rfl (by decide) ?_
  let h_6 : Hp := hput h l0 48 (w32 ((h l0 48) + 1))
  refine z_iload X dX12_newStep_96 1 rfl ?_
  cases hf
  exact z_iret X hK dX12_newStep_98
set_option maxHeartbeats 4000000 in
set_option maxRecDepth 100000 in
theorem c_M_newStep {l : Launch} {g : GP} (d : Nat) (hd : 0 ≤ d) (l0 l1 l2 l3 : Int) (h : Hp) (y : Int × Hp) (hf : M_newStep l0 l1 l2 l3 h = some y) : zM l yX12_newStep cX12_newStep 6 (some .int) d 0 0 g 157 h [(2, l0), (0, l1), (0, l2), (0, l3)] 157 y.2 (some (0, y.1)) := by
  refine z_start (by decide) (Nat.le_of_ble_eq_true rfl) (fun x X hK _ _ _ hl => ?_)
  show ZV g x 6 h 0 [(0, (2, l0)), (1, (0, l1)), (2, (0, l2)), (3, (0, l3))] []
  unfold M_newStep at hf
  refine z_aload_n X dX12_newStep_0 0 rfl ?_
  obtain ⟨g1, hf⟩ := gif hf
  refine y_get X fl_RX12_450 dX12_newStep_1 g1 ?_
  refine z_istore X dX12_newStep_4 (by decide) (ls' := [(4, (0, h l0 48)), (0, (2, l0)), (1, (0, l1)), (2, (0, l2)), (3, (0, l3))]) rfl ?_
  refine z_aload_n X dX12_newStep_6 1 rfl ?_
  refine y_get X fl_RX12_214 dX12_newStep_7 g1 ?_
  refine z_iload X dX12_newStep_10 0 rfl ?_
  refine z_iload_n X dX12_newStep_12 2 rfl ?_
  obtain ⟨g2, hf⟩ := gif hf
  refine y_iast X dX12_newStep_13 g2 ?_
  let h_1 : Hp := hput h (h l0 49) (h l0 48) l1
  refine z_aload_n X dX12_newStep_14 1 rfl ?_
  refine y_get X fl_RX12_217 dX12_newStep_15 g1 ?_
  refine z_iload X dX12_newStep_18 0 rfl ?_
  refine z_iload_n X dX12_newStep_20 3 rfl ?_
  obtain ⟨g3, hf⟩ := gif hf
  refine y_iast X dX12_newStep_21 g3 ?_
  let h_2 : Hp := hput h_1 (h_1 l0 50) (h l0 48) l2
  refine z_aload_n X dX12_newStep_22 1 rfl ?_
  refine y_get X fl_RX12_220 dX12_newStep_23 g1 ?_
  refine z_iload X dX12_newStep_26 0 rfl ?_
  refine z_iload_n X dX12_newStep_28 4 rfl ?_
  obtain ⟨g4, hf⟩ := gif hf
  refine y_iast X dX12_newStep_29 g4 ?_
  let h_3 : Hp := hput h_2 (h_2 l0 51) (h l0 48) l3
  refine z_aload_n X dX12_newStep_30 1 rfl ?_
  refine y_get X fl_RX12_223 dX12_newStep_31 g1 ?_
  refine z_iload X dX12_newStep_34 0 rfl ?_
  refine z_iconst X dX12_newStep_36 kc_m1 ?_
  obtain ⟨g5, hf⟩ := gif hf
  refine y_iast X dX12_newStep_37 g5 ?_
  let h_4 : Hp := hput h_3 (h_3 l0 52) (h l0 48) ((-1))
  refine z_iconst X dX12_newStep_38 kc_0 ?_
  refine z_istore X dX12_newStep_39 (by decide) (ls' := [(5, (0, 0)), (4, (0, h l0 48)), (0, (2, l0)), (1, (0, l1)), (2, (0, l2)), (3, (0, l3))]) rfl ?_
  obtain ⟨q41, hq41, hf⟩ := obE hf
  have hx41_0 : ∀ e68 : Hp, (e68 : Hp) = q41 → ZV g x 6 e68 68 [(0, (2, l0)), (2, (0, l2)), (3, (0, l3)), (4, (0, h l0 48))] [] := by
    intro e68 hq
    subst hq
    refine z_iload_n X dX12_newStep_68 1 rfl ?_
    refine z_iconst X dX12_newStep_69 kc_m1 ?_
    refine z_icmp_eq X dX12_newStep_70 rfl (fun hc70 => ?_) (fun hc70 => ?_)
    · have hf := ift hc70 hf
      exact z_weak [0, 3] rfl (z_M_newStep_j86 X l0 (h l0 48) e68 _ hf hK)
    · have hf := iff' hc70 hf
      refine z_aload_n X dX12_newStep_73 0 rfl ?_
      refine y_get X fl_RX12_226 dX12_newStep_74 g1 ?_
      refine z_bipush X dX12_newStep_77 kb_12 kc_12 ?_
      refine z_iload_n X dX12_newStep_79 1 rfl ?_
      refine z_imul X dX12_newStep_80 ?_
      refine z_iload_n X dX12_newStep_81 2 rfl ?_
      refine z_iadd X dX12_newStep_82 ?_
      refine z_iload X dX12_newStep_83 3 rfl ?_
      obtain ⟨g9, hf⟩ := gif hf
      refine y_iast X dX12_newStep_85 g9 ?_
      let h_7 : Hp := hput e68 (e68 l0 53) (w32 ((w32 (12 * l2)) + l3)) (h l0 48)
      exact z_weak [0, 3] rfl (z_M_newStep_j86 X l0 (h l0 48) h_7 _ hf hK)
  exact z_weak [2, 4, 5, 1, 0] rfl (z_loop (Z := (fun q : Int × Hp => ZV g x 6 q.2 41 [(0, (2, l0)), (2, (0, l2)), (3, (0, l3)), (4, (0, h l0 48)), (5, (0, q.1))] [])) (E := fun q => q = q41) (fun q y hb hk => z_M_newStep_L41 X l0 l2 l3 (h l0 48) (fun q => q = q41) hx41_0 q.1 q.2 y hb hk) LN (0, h_4) q41 hq41 rfl)
set_option maxHeartbeats 4000000 in
set_option maxRecDepth 100000 in
theorem c_M_laysLetter {l : Launch} {g : GP} (d : Nat) (hd : 0 ≤ d) (l0 l1 l2 l3 : Int) (h : Hp) (y : Hp) (hf : M_laysLetter l0 l1 l2 l3 h = some y) : zM l yX12_laysLetter cX12_laysLetter 5 none d 0 0 g 157 h [(2, l0), (0, l1), (0, l2), (0, l3)] 157 y none := by
  refine z_start (by decide) (Nat.le_of_ble_eq_true rfl) (fun x X hK _ _ _ hl => ?_)
  show ZV g x 5 h 0 [(0, (2, l0)), (1, (0, l1)), (2, (0, l2)), (3, (0, l3))] []
  unfold M_laysLetter at hf
  refine z_iload_n X dX12_laysLetter_0 2 rfl ?_
  refine z_aload_n X dX12_laysLetter_1 0 rfl ?_
  obtain ⟨g1, hf⟩ := gif hf
  refine y_get X fl_RX12_7 dX12_laysLetter_2 g1 ?_
  refine z_aload_n X dX12_laysLetter_5 0 rfl ?_
  refine y_get X fl_RX12_214 dX12_laysLetter_6 g1 ?_
  refine z_iload_n X dX12_laysLetter_9 1 rfl ?_
  obtain ⟨g2, hf⟩ := gif hf
  refine y_iald X dX12_laysLetter_10 g2 ?_
  obtain ⟨g3, hf⟩ := gif hf
  refine y_iald X dX12_laysLetter_11 g3 ?_
  refine z_isub X dX12_laysLetter_12 ?_
  refine z_istore X dX12_laysLetter_13 (by decide) (ls' := [(4, (0, w32 (l2 - (h (h l0 4) (h (h l0 49) l1))))), (0, (2, l0)), (1, (0, l1)), (2, (0, l2)), (3, (0, l3))]) rfl ?_
  refine z_aload_n X dX12_laysLetter_15 1 rfl ?_
  refine y_get X fl_RX12_229 dX12_laysLetter_16 g1 ?_
  refine z_iload_n X dX12_laysLetter_19 4 rfl ?_
  refine z_iload_n X dX12_laysLetter_20 2 rfl ?_
  obtain ⟨g4, hf⟩ := gif hf
  refine y_iast X dX12_laysLetter_21 g4 ?_
  let h_1 : Hp := hput h (h l0 54) l3 l1
  refine z_aload_n X dX12_laysLetter_22 1 rfl ?_
  refine y_get X fl_RX12_232 dX12_laysLetter_23 g1 ?_
  refine z_iload_n X dX12_laysLetter_26 4 rfl ?_
  refine z_iload X dX12_laysLetter_27 0 rfl ?_
  obtain ⟨g5, hf⟩ := gif hf
  refine y_iast X dX12_laysLetter_29 g5 ?_
  let h_2 : Hp := hput h_1 (h_1 l0 55) l3 (w32 (l2 - (h (h l0 4) (h (h l0 49) l1))))
  refine z_iload X dX12_laysLetter_30 0 rfl ?_
  refine z_aload_n X dX12_laysLetter_32 1 rfl ?_
  refine y_get X fl_RX12_155 dX12_laysLetter_33 g1 ?_
  refine z_aload_n X dX12_laysLetter_36 1 rfl ?_
  refine y_get X fl_RX12_214 dX12_laysLetter_37 g1 ?_
  refine z_iload_n X dX12_laysLetter_40 2 rfl ?_
  obtain ⟨g6, hf⟩ := gif hf
  refine y_iald X dX12_laysLetter_41 g6 ?_
  obtain ⟨g7, hf⟩ := gif hf
  refine y_iald X dX12_laysLetter_42 g7 ?_
  refine z_icmp_ne X dX12_laysLetter_43 rfl (fun hc43 => ?_) (fun hc43 => ?_)
  · have hf := iff' hc43 hf
    cases hf
    exact z_vret X hK dX12_laysLetter_53
  · have hf := ift hc43 hf
    refine z_aload_n X dX12_laysLetter_46 1 rfl ?_
    refine y_get X fl_RX12_223 dX12_laysLetter_47 g1 ?_
    refine z_iload_n X dX12_laysLetter_50 2 rfl ?_
    refine z_iload_n X dX12_laysLetter_51 4 rfl ?_
    obtain ⟨g8, hf⟩ := gif hf
    refine y_iast X dX12_laysLetter_52 g8 ?_
    let h_3 : Hp := hput h_2 (h_2 l0 52) l1 l3
    cases hf
    exact z_vret X hK dX12_laysLetter_53
def M_lays_G_IH (l : Launch) (g : GP) (d : Nat) : Prop := (∀ (l0 l1 l2 l3 l4 l5 l6 l7 l8 : Int) (h : Hp) (y : Hp), M_lays_G d 0 [l0, l1, l2, l3, l4, l5, l6, l7, l8] h = some y → zM l yX12_lays cX12_lays 10 none d 0 0 g 157 h [(2, l0), (0, l1), (0, l2), (0, l3), (0, l4), (0, l5), (0, l6), (0, l7), (1, l8)] 157 y none) ∧ (∀ (l0 l1 l2 l3 l4 l5 l6 l7 : Int) (h : Hp) (y : Hp), M_lays_G d 1 [l0, l1, l2, l3, l4, l5, l6, l7] h = some y → zM l yX12_laysAbove cX12_laysAbove 19 none d 0 0 g 157 h [(2, l0), (0, l1), (0, l2), (0, l3), (0, l4), (0, l5), (0, l6), (1, l7)] 157 y none) ∧ (∀ (l0 l1 l2 l3 l4 l5 : Int) (h : Hp) (y : Hp), M_lays_G d 2 [l0, l1, l2, l3, l4, l5] h = some y → zM l yX12_laysHost cX12_laysHost 13 none d 0 0 g 157 h [(2, l0), (0, l1), (0, l2), (0, l3), (0, l4), (1, l5)] 157 y none) ∧ (∀ (l0 l1 l2 l3 l4 l5 l6 l7 : Int) (h : Hp) (y : Hp), M_lays_G d 3 [l0, l1, l2, l3, l4, l5, l6, l7] h = some y → zM l yX12_laysBelow cX12_laysBelow 18 none d 0 0 g 157 h [(2, l0), (0, l1), (0, l2), (0, l3), (0, l4), (0, l5), (0, l6), (1, l7)] 157 y none)
set_option maxHeartbeats 4000000 in
set_option maxRecDepth 100000 in
theorem z_M_lays_j33 {g : GP} {x : CX} {d : Nat} (X : zX g x RX12 cX12_lays 10 (d + 1)) (hd : 1 ≤ d) (IH : M_lays_G_IH (xl x) g d) (l0 l1 l3 l4 l5 l6 l7 l8 : Int) (h : Hp) (y : Hp) (hf : M_lays_j33 (M_lays_G d) d l0 l1 l3 l4 l5 l6 l7 l8 h = some y) (hK : zE g x none 0 0 157 y none) : ZV g x 10 h 33 [(0, (2, l0)), (1, (0, l1)), (3, (0, l3)), (4, (0, l4)), (5, (0, l5)), (6, (0, l6)), (7, (0, l7)), (8, (1, l8))] [] := by
  unfold M_lays_j33 at hf
  refine z_aload_n X dX12_lays_33 0 rfl ?_
  refine z_iload_n X dX12_lays_34 1 rfl ?_
  refine z_iload_n X dX12_lays_35 2 rfl ?_
  refine z_iload X dX12_lays_36 3 rfl ?_
  refine z_iload X dX12_lays_38 4 rfl ?_
  refine z_iload X dX12_lays_40 5 rfl ?_
  refine z_iload X dX12_lays_42 6 rfl ?_
  refine z_lload X dX12_lays_44 7 rfl ?_
  obtain ⟨g1, hf⟩ := gif hf
  obtain ⟨r46, hr46, hf⟩ := obE hf
  refine y_V0 X cv_RX12_457 dX12_lays_46 g1 (IH.2.2.2 l0 l1 l3 l4 l5 l6 l7 l8 h r46 hr46) (as := [(0, l1), (0, l3), (0, l4), (0, l5), (0, l6), (0, l7), (1, l8)]) rfl rfl (Nat.le_of_ble_eq_true rfl) z00 ?_
  cases hf
  exact z_vret X hK dX12_lays_49
