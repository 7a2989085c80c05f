set_option maxHeartbeats 4000000 in
set_option maxRecDepth 100000 in
theorem z_M_lengths_j90 {g : GP} {x : CX} {d : Nat} (X : zX g x RX12 cX12_lengths 4 (d + 1)) (hd : 1 ≤ d) (l0 l1 l2 l3 : Int) (h : Hp) (y : (Int × Int × Hp) ⊕ (Int × Hp)) (hf : M_lengths_j90 (d + 1) l0 l1 l2 l3 h = some y) (E : Int × Hp → Prop) (hx0 : ∀ e : Int × Hp, E (e) → ZV g x 4 e.2 96 [(2, (0, e.1))] []) (hk : z_sum (fun q : Int × Int × Hp => ZV g x 4 q.2.2 22 [(0, (2, l0)), (1, (0, l1)), (2, (0, q.1)), (3, (0, q.2.1))] []) E y) : ZV g x 4 h 90 [(0, (2, l0)), (1, (0, l1)), (2, (0, l2)), (3, (0, l3))] [] := by
  unfold M_lengths_j90 at hf
  refine z_iinc X dX12_lengths_90 3 rfl (by decide) (ls' := [(3, (0, w32 (l3 + 1))), (0, (2, l0)), (1, (0, l1)), (2, (0, l2))]) rfl ?_
  refine z_goto X dX12_lengths_93 rfl ?_
  cases hf
  exact z_weak [1, 2, 3, 0] rfl hk
set_option maxHeartbeats 4000000 in
set_option maxRecDepth 100000 in
theorem z_M_lengths_j86 {g : GP} {x : CX} {d : Nat} (X : zX g x RX12 cX12_lengths 4 (d + 1)) (hd : 1 ≤ d) (l0 l1 l3 s0 s1 s2 s3 : Int) (h : Hp) (y : (Int × Int × Hp) ⊕ (Int × Hp)) (hf : M_lengths_j86 (d + 1) l0 l1 l3 s0 s1 s2 s3 h = some y) (E : Int × Hp → Prop) (hx0 : ∀ e : Int × Hp, E (e) → ZV g x 4 e.2 96 [(2, (0, e.1))] []) (hk : z_sum (fun q : Int × Int × Hp => ZV g x 4 q.2.2 22 [(0, (2, l0)), (1, (0, l1)), (2, (0, q.1)), (3, (0, q.2.1))] []) E y) : ZV g x 4 h 86 [(0, (2, l0)), (1, (0, l1)), (3, (0, l3))] [(0, s0), (0, s1), (0, s2), (2, s3)] := by
  unfold M_lengths_j86 at hf
  obtain ⟨g4, hf⟩ := gif hf
  obtain ⟨r86, hr86, hf⟩ := obE hf
  refine y_V1 X cv_RX12_346 dX12_lengths_86 g4 (c_M_best d (Nat.le_trans (by decide) hd) s3 s2 s1 s0 h r86 hr86) (as := [(0, s2), (0, s1), (0, s0)]) rfl rfl (Nat.le_of_ble_eq_true rfl) z00 ?_
  refine z_istore_n X dX12_lengths_89 (by decide) (ls' := [(2, (0, r86)), (0, (2, l0)), (1, (0, l1)), (3, (0, l3))]) rfl ?_
  exact z_weak [1, 2, 0, 3] rfl (z_M_lengths_j90 X hd l0 l1 r86 l3 h _ hf E hx0 hk)
set_option maxHeartbeats 4000000 in
set_option maxRecDepth 100000 in
theorem z_M_lengths_j69 {g : GP} {x : CX} {d : Nat} (X : zX g x RX12 cX12_lengths 4 (d + 1)) (hd : 1 ≤ d) (l0 l1 l3 s0 s1 s2 s3 s4 s5 s6 s7 s8 s9 : Int) (h : Hp) (y : (Int × Int × Hp) ⊕ (Int × Hp)) (hf : M_lengths_j69 (d + 1) l0 l1 l3 s0 s1 s2 s3 s4 s5 s6 s7 s8 s9 h = some y) (E : Int × Hp → Prop) (hx0 : ∀ e : Int × Hp, E (e) → ZV g x 4 e.2 96 [(2, (0, e.1))] []) (hk : z_sum (fun q : Int × Int × Hp => ZV g x 4 q.2.2 22 [(0, (2, l0)), (1, (0, l1)), (2, (0, q.1)), (3, (0, q.2.1))] []) E y) : ZV g x 4 h 69 [(0, (2, l0)), (1, (0, l1)), (3, (0, l3))] [(0, s0), (0, s1), (0, s2), (0, s3), (0, s4), (0, s5), (0, s6), (2, s7), (0, s8), (2, s9)] := by
  unfold M_lengths_j69 at hf
  obtain ⟨g3, hf⟩ := gif hf
  obtain ⟨r69, hr69, hf⟩ := obE hf
  refine y_V1 X cv_RX12_339 dX12_lengths_69 g3 (c_M_stepsIn d s7 s6 s5 s4 s3 s2 s1 s0 h r69 hr69) (as := [(0, s6), (0, s5), (0, s4), (0, s3), (0, s2), (0, s1), (0, s0)]) rfl rfl (Nat.le_of_ble_eq_true rfl) z00 ?_
  refine z_iconst X dX12_lengths_72 kc_1 ?_
  obtain ⟨r73, hr73, hf⟩ := obE hf
  refine y_S1 X cs_RX12_343 dX12_lengths_73 (c_M_both d (Nat.zero_le _) r69.1 1 r69.2 r73 hr73) (as := [(0, r69.1), (0, 1)]) rfl rfl (Nat.le_of_ble_eq_true rfl) z00 ?_
  refine z_iload_n X dX12_lengths_76 1 rfl ?_
  refine z_iconst X dX12_lengths_77 kc_1 ?_
  refine z_icmp_ne X dX12_lengths_78 rfl (fun hc78 => ?_) (fun hc78 => ?_)
  · rw [if_neg hc78] at hf
    refine z_iconst X dX12_lengths_85 kc_0 ?_
    exact (z_M_lengths_j86 X hd l0 l1 l3 0 r73 s8 s9 r69.2 _ hf E hx0 hk)
  · rw [if_pos hc78] at hf
    refine z_iconst X dX12_lengths_81 kc_1 ?_
    refine z_goto X dX12_lengths_82 rfl ?_
    exact (z_M_lengths_j86 X hd l0 l1 l3 1 r73 s8 s9 r69.2 _ hf E hx0 hk)
set_option maxHeartbeats 4000000 in
set_option maxRecDepth 100000 in
theorem z_M_lengths_L22 {g : GP} {x : CX} {d : Nat} (X : zX g x RX12 cX12_lengths 4 (d + 1)) (hd : 1 ≤ d) (l0 l1 : Int)  (E : Int × Hp → Prop) (hx0 : ∀ e : Int × Hp, E (e) → ZV g x 4 e.2 96 [(2, (0, e.1))] []) (l2 l3 : Int) (h : Hp) (y : (Int × Int × Hp) ⊕ (Int × Hp)) (hf : M_lengths_L22 (d + 1) l0 l1 l2 l3 h = some y) (hk : z_sum (fun q : Int × Int × Hp => ZV g x 4 q.2.2 22 [(0, (2, l0)), (1, (0, l1)), (2, (0, q.1)), (3, (0, q.2.1))] []) E y) : ZV g x 4 h 22 [(0, (2, l0)), (1, (0, l1)), (2, (0, l2)), (3, (0, l3))] [] := by
  unfold M_lengths_L22 at hf
  refine z_iload_n X dX12_lengths_22 3 rfl ?_
  refine z_aload_n X dX12_lengths_23 0 rfl ?_
  obtain ⟨g2, hf⟩ := gif hf
  refine y_get X fl_RX12_11 dX12_lengths_24 g2 ?_
  refine z_icmp_ge X dX12_lengths_27 rfl (fun hc27 => ?_) (fun hc27 => ?_)
  · have hf := ift hc27 hf
    cases hf
    exact z_weak [2] rfl (hx0 _ hk)
  · have hf := iff' hc27 hf
    refine z_aload_n X dX12_lengths_30 0 rfl ?_
    refine z_iload_n X dX12_lengths_31 3 rfl ?_
    refine z_aload_n X dX12_lengths_32 0 rfl ?_
    obtain ⟨r33, hr33, hf⟩ := obE hf
    refine y_V1 X cv_RX12_354 dX12_lengths_33 g2 (c_M_start d (Nat.zero_le _) l0 h r33 hr33) (as := []) rfl rfl (Nat.le_of_ble_eq_true rfl) z00 ?_
    refine z_iconst X dX12_lengths_36 kc_0 ?_
    obtain ⟨r37, hr37, hf⟩ := obE hf
    refine y_V1 X cv_RX12_296 dX12_lengths_37 g2 (c_M_mayGo d (Nat.le_trans (by decide) hd) l0 l3 r33 0 h r37 hr37) (as := [(0, l3), (0, r33), (0, 0)]) rfl rfl (Nat.le_of_ble_eq_true rfl) z00 ?_
    refine z_if_eq X dX12_lengths_40 rfl (fun hc40 => ?_) (fun hc40 => ?_)
    · have hf := ift hc40 hf
      exact (z_M_lengths_j90 X hd l0 l1 l2 l3 h _ hf E hx0 hk)
    · have hf := iff' hc40 hf
      refine z_aload_n X dX12_lengths_43 0 rfl ?_
      refine z_iload_n X dX12_lengths_44 2 rfl ?_
      refine z_aload_n X dX12_lengths_45 0 rfl ?_
      refine z_iconst X dX12_lengths_46 kc_1 ?_
      refine z_aload_n X dX12_lengths_47 0 rfl ?_
      refine z_iload_n X dX12_lengths_48 3 rfl ?_
      obtain ⟨r49, hr49, hf⟩ := obE hf
      refine y_V1 X cv_RX12_268 dX12_lengths_49 g2 (c_M_root d (Nat.zero_le _) l0 l3 h r49 hr49) (as := [(0, l3)]) rfl rfl (Nat.le_of_ble_eq_true rfl) z00 ?_
      refine z_iconst X dX12_lengths_52 kc_0 ?_
      refine z_aload_n X dX12_lengths_53 0 rfl ?_
      refine y_get X fl_RX12_249 dX12_lengths_54 g2 ?_
      refine z_iconst X dX12_lengths_57 kc_m1 ?_
      refine z_iconst X dX12_lengths_58 kc_m1 ?_
      refine z_iload_n X dX12_lengths_59 1 rfl ?_
      refine z_iconst X dX12_lengths_60 kc_1 ?_
      refine z_icmp_ne X dX12_lengths_61 rfl (fun hc61 => ?_) (fun hc61 => ?_)
      · rw [if_neg hc61] at hf
        refine z_iconst X dX12_lengths_68 kc_0 ?_
        exact z_weak [0, 1, 3] rfl (z_M_lengths_j69 X hd l0 l1 l3 0 ((-1)) ((-1)) (h l0 34) 0 r49 1 l0 l2 l0 h _ hf E hx0 hk)
      · rw [if_pos hc61] at hf
        refine z_iconst X dX12_lengths_64 kc_1 ?_
        refine z_goto X dX12_lengths_65 rfl ?_
        exact z_weak [0, 1, 3] rfl (z_M_lengths_j69 X hd l0 l1 l3 1 ((-1)) ((-1)) (h l0 34) 0 r49 1 l0 l2 l0 h _ hf E hx0 hk)
set_option maxHeartbeats 4000000 in
set_option maxRecDepth 100000 in
theorem c_M_lengths {l : Launch} {g : GP} (d : Nat) (hd : 2 ≤ d) (l0 l1 : Int) (h : Hp) (y : Int × Hp) (hf : M_lengths d l0 l1 h = some y) : zM l yX12_lengths cX12_lengths 4 (some .int) d 0 0 g 157 h [(2, l0), (0, l1)] 157 y.2 (some (0, y.1)) := by
  obtain ⟨d, rfl⟩ : ∃ k, d = k + 1 := ⟨d - 1, by omega⟩
  replace hd : 1 ≤ d := Nat.le_of_succ_le_succ hd
  refine z_start (by decide) (Nat.le_of_ble_eq_true rfl) (fun x X hK _ _ _ hl => ?_)
  show ZV g x 4 h 0 [(0, (2, l0)), (1, (0, l1))] []
  unfold M_lengths at hf
  refine z_iload_n X dX12_lengths_0 1 rfl ?_
  refine z_i2l X dX12_lengths_1 ?_
  refine z_lconst0 X dX12_lengths_2 ?_
  refine z_lconst1 X dX12_lengths_3 ?_
  obtain ⟨r4, hr4, hf⟩ := obE hf
  refine y_S1 X cs_RX12_14 dX12_lengths_4 (c_M_in d (Nat.zero_le _) l1 0 1 h r4 hr4) (as := [(1, l1), (1, 0), (1, 1)]) rfl rfl (Nat.le_of_ble_eq_true rfl) z00 ?_
  refine z_if_ne X dX12_lengths_7 rfl (fun hc7 => ?_) (fun hc7 => ?_)
  · have hf := iff' hc7 hf
    refine z_aload_n X dX12_lengths_13 0 rfl ?_
    refine z_iconst X dX12_lengths_14 kc_0 ?_
    obtain ⟨g1, hf⟩ := gif hf
    obtain ⟨r15, hr15, hf⟩ := obE hf
    refine y_V0 X cv_RX12_387 dX12_lengths_15 g1 (c_M_looksAt d (Nat.le_trans (by decide) hd) l0 0 h r15 hr15) (as := [(0, 0)]) rfl rfl (Nat.le_of_ble_eq_true rfl) z00 ?_
    refine z_iconst X dX12_lengths_18 kc_m1 ?_
    refine z_istore_n X dX12_lengths_19 (by decide) (ls' := [(2, (0, (-1))), (0, (2, l0)), (1, (0, l1))]) rfl ?_
    refine z_iconst X dX12_lengths_20 kc_0 ?_
    refine z_istore_n X dX12_lengths_21 (by decide) (ls' := [(3, (0, 0)), (2, (0, (-1))), (0, (2, l0)), (1, (0, l1))]) rfl ?_
    obtain ⟨q22, hq22, hf⟩ := obE hf
    have hx22_0 : ∀ e96 : Int × Hp, (e96 : Int × Hp) = q22 → ZV g x 4 e96.2 96 [(2, (0, e96.1))] [] := by
      intro e96 hq
      subst hq
      refine z_iload_n X dX12_lengths_96 0 rfl ?_
      cases hf
      exact z_iret X hK dX12_lengths_97
    exact z_weak [2, 3, 1, 0] rfl (z_loop (Z := (fun q : Int × Int × Hp => ZV g x 4 q.2.2 22 [(0, (2, l0)), (1, (0, l1)), (2, (0, q.1)), (3, (0, q.2.1))] [])) (E := fun q => q = q22) (fun q y hb hk => z_M_lengths_L22 X hd l0 l1 (fun q => q = q22) hx22_0 q.1 q.2.1 q.2.2 y hb hk) LN ((-1), 0, r15) q22 hq22 rfl)
  · have hf := ift hc7 hf
    refine z_bipush X dX12_lengths_10 kb_m2 kc_m2 ?_
    cases hf
    exact z_iret X hK dX12_lengths_12
def M_meets_G_IH (l : Launch) (g : GP) (d : Nat) : Prop := (∀ (l0 l1 l2 l3 l4 l5 l6 : Int) (h : Hp) (y : Hp), M_meets_G d 0 [l0, l1, l2, l3, l4, l5, l6] h = some y → zM l yX12_meets cX12_meets 8 none d 0 0 g 157 h [(2, l0), (0, l1), (0, l2), (0, l3), (0, l4), (0, l5), (0, l6)] 157 y none) ∧ (∀ (l0 l1 l2 l3 l4 l5 : Int) (h : Hp) (y : Hp), M_meets_G d 1 [l0, l1, l2, l3, l4, l5] h = some y → zM l yX12_meetsAbove cX12_meetsAbove 9 none d 0 0 g 157 h [(2, l0), (0, l1), (0, l2), (0, l3), (0, l4), (0, l5)] 157 y none) ∧ (∀ (l0 l1 l2 l3 : Int) (h : Hp) (y : Hp), M_meets_G d 2 [l0, l1, l2, l3] h = some y → zM l yX12_meetsHost cX12_meetsHost 4 none d 0 0 g 157 h [(2, l0), (0, l1), (0, l2), (0, l3)] 157 y none) ∧ (∀ (l0 l1 l2 l3 l4 l5 : Int) (h : Hp) (y : Hp), M_meets_G d 3 [l0, l1, l2, l3, l4, l5] h = some y → zM l yX12_meetsBelow cX12_meetsBelow 9 none d 0 0 g 157 h [(2, l0), (0, l1), (0, l2), (0, l3), (0, l4), (0, l5)] 157 y none)
set_option maxHeartbeats 4000000 in
set_option maxRecDepth 100000 in
theorem z_M_meets_j85 {g : GP} {x : CX} {d : Nat} (X : zX g x RX12 cX12_meets 8 (d + 1)) (hd : 1 ≤ d) (IH : M_meets_G_IH (xl x) g d) (l0 l2 l3 l4 l5 l6 : Int) (h : Hp) (y : Hp) (hf : M_meets_j85 (M_meets_G d) d l0 l2 l3 l4 l5 l6 h = some y) (hK : zE g x none 0 0 157 y none) : ZV g x 8 h 85 [(0, (2, l0)), (2, (0, l2)), (3, (0, l3)), (4, (0, l4)), (5, (0, l5)), (6, (0, l6))] [] := by
  unfold M_meets_j85 at hf
  refine z_aload_n X dX12_meets_85 0 rfl ?_
  refine z_iload_n X dX12_meets_86 1 rfl ?_
  refine z_iload_n X dX12_meets_87 2 rfl ?_
  refine z_iload X dX12_meets_88 3 rfl ?_
  refine z_iload X dX12_meets_90 4 rfl ?_
  refine z_iload X dX12_meets_92 5 rfl ?_
  obtain ⟨g3, hf⟩ := gif hf
  obtain ⟨r94, hr94, hf⟩ := obE hf
  refine y_V0 X cv_RX12_405 dX12_meets_94 g3 (IH.2.2.2 l0 l2 l3 l4 l5 l6 h r94 hr94) (as := [(0, l2), (0, l3), (0, l4), (0, l5), (0, l6)]) rfl rfl (Nat.le_of_ble_eq_true rfl) z00 ?_
  cases hf
  exact z_vret X hK dX12_meets_97
set_option maxHeartbeats 4000000 in
set_option maxRecDepth 100000 in
theorem cb_M_meets {l : Launch} {g : GP} {d : Nat} (IH : M_meets_G_IH l g d) (hd : 1 ≤ d) (l0 l1 l2 l3 l4 l5 l6 : Int) (h : Hp) (y : Hp) (hf : M_meets_b (M_meets_G d) d l0 l1 l2 l3 l4 l5 l6 h = some y) : zM l yX12_meets cX12_meets 8 none (d + 1) 0 0 g 157 h [(2, l0), (0, l1), (0, l2), (0, l3), (0, l4), (0, l5), (0, l6)] 157 y none := by
  refine z_start (by decide) (Nat.le_of_ble_eq_true rfl) (fun x X hK _ _ _ hl => ?_)
  have IH : M_meets_G_IH (xl x) g d := hl ▸ IH
  show ZV g x 8 h 0 [(0, (2, l0)), (1, (0, l1)), (2, (0, l2)), (3, (0, l3)), (4, (0, l4)), (5, (0, l5)), (6, (0, l6))] []
  unfold M_meets_b at hf
  refine z_aload_n X dX12_meets_0 0 rfl ?_
  refine z_iload_n X dX12_meets_1 1 rfl ?_
  refine z_iload_n X dX12_meets_2 2 rfl ?_
  refine z_iload_n X dX12_meets_3 3 rfl ?_
  refine z_iload X dX12_meets_4 4 rfl ?_
  refine z_iload X dX12_meets_6 5 rfl ?_
  refine z_iload X dX12_meets_8 6 rfl ?_
  obtain ⟨g1, hf⟩ := gif hf
  obtain ⟨r10, hr10, hf⟩ := obE hf
  refine y_V1 X cv_RX12_292 dX12_meets_10 g1 (c_M_waysOf d l0 l1 l2 l3 l4 l5 l6 h r10 hr10) (as := [(0, l1), (0, l2), (0, l3), (0, l4), (0, l5), (0, l6)]) rfl rfl (Nat.le_of_ble_eq_true rfl) z00 ?_
  refine z_lconst0 X dX12_meets_13 ?_
  refine z_l_ne X dX12_meets_14 dX12_meets_15 rfl (fun hc14 => ?_) (fun hc14 => ?_)
  · have hf := iff' hc14 hf
    refine z_iload_n X dX12_meets_19 1 rfl ?_
    refine z_iload_n X dX12_meets_20 2 rfl ?_
    refine z_aload_n X dX12_meets_21 0 rfl ?_
    refine z_iload_n X dX12_meets_22 3 rfl ?_
    refine z_iload X dX12_meets_23 4 rfl ?_
    refine z_iload X dX12_meets_25 5 rfl ?_
    refine z_iload X dX12_meets_27 6 rfl ?_
    obtain ⟨r29, hr29, hf⟩ := obE hf
    refine y_V1 X cv_RX12_278 dX12_meets_29 g1 (c_M_spanOf d (Nat.le_trans (by decide) hd) l0 l3 l4 l5 l6 r10.2 r29 hr29) (as := [(0, l3), (0, l4), (0, l5), (0, l6)]) rfl rfl (Nat.le_of_ble_eq_true rfl) z00 ?_
    obtain ⟨r32, hr32, hf⟩ := obE hf
    refine y_S1 X cs_RX12_281 dX12_meets_32 (c_M_keyOf d (Nat.zero_le _) l1 l2 r29 r10.2 r32 hr32) (as := [(0, l1), (0, l2), (0, r29)]) rfl rfl (Nat.le_of_ble_eq_true rfl) z00 ?_
    refine z_istore X dX12_meets_35 (by decide) (ls' := [(7, (0, r32)), (0, (2, l0)), (1, (0, l1)), (2, (0, l2)), (3, (0, l3)), (4, (0, l4)), (5, (0, l5)), (6, (0, l6))]) rfl ?_
    refine z_aload_n X dX12_meets_37 1 rfl ?_
    refine y_get X fl_RX12_211 dX12_meets_38 g1 ?_
    refine z_iload X dX12_meets_41 0 rfl ?_
    obtain ⟨g2, hf⟩ := gif hf
    refine y_zald X dX12_meets_43 g2 ?_
    refine z_if_eq X dX12_meets_44 rfl (fun hc44 => ?_) (fun hc44 => ?_)
    · have hf := ift hc44 hf
      refine z_aload_n X dX12_meets_48 1 rfl ?_
      refine y_get X fl_RX12_211 dX12_meets_49 g1 ?_
      refine z_iload X dX12_meets_52 0 rfl ?_
      refine z_iconst X dX12_meets_54 kc_1 ?_
      refine y_zast X dX12_meets_55 g2 (Or.inr rfl) ?_
      let h_1 : Hp := hput r10.2 (r10.2 l0 44) r32 1
      refine z_iload_n X dX12_meets_56 2 rfl ?_
      refine z_iconst X dX12_meets_57 kc_1 ?_
      refine z_icmp_ne X dX12_meets_58 rfl (fun hc58 => ?_) (fun hc58 => ?_)
      · have hf := iff' hc58 hf
        exact z_weak [1, 3, 4, 5, 6, 7] rfl (z_M_meets_j85 X hd IH l0 l2 l3 l4 l5 l6 h_1 _ hf hK)
      · have hf := ift hc58 hf
        refine z_aload_n X dX12_meets_61 1 rfl ?_
        refine y_get X fl_RX12_98 dX12_meets_62 g1 ?_
        refine z_iload_n X dX12_meets_65 3 rfl ?_
        obtain ⟨g4, hf⟩ := gif hf
        refine y_iald X dX12_meets_66 g4 ?_
        refine z_if_ne X dX12_meets_67 rfl (fun hc67 => ?_) (fun hc67 => ?_)
        · have hf := iff' hc67 hf
          exact z_weak [1, 3, 4, 5, 6, 7] rfl (z_M_meets_j85 X hd IH l0 l2 l3 l4 l5 l6 h_1 _ hf hK)
        · have hf := ift hc67 hf
          refine z_aload_n X dX12_meets_70 1 rfl ?_
          refine z_iload_n X dX12_meets_71 3 rfl ?_
          refine z_iload_n X dX12_meets_72 4 rfl ?_
          refine z_iload X dX12_meets_73 5 rfl ?_
          refine z_iload X dX12_meets_75 6 rfl ?_
          refine z_iload X dX12_meets_77 7 rfl ?_
          obtain ⟨r79, hr79, hf⟩ := obE hf
          refine y_V0 X cv_RX12_401 dX12_meets_79 g1 (IH.2.1 l0 l2 l3 l4 l5 l6 h_1 r79 hr79) (as := [(0, l2), (0, l3), (0, l4), (0, l5), (0, l6)]) rfl rfl (Nat.le_of_ble_eq_true rfl) z00 ?_
          refine z_goto X dX12_meets_82 rfl ?_
          cases hf
          exact z_vret X hK dX12_meets_97
    · have hf := iff' hc44 hf
      cases hf
      exact z_vret X hK dX12_meets_47
  · have hf := ift hc14 hf
    cases hf
    exact z_vret X hK dX12_meets_18
set_option maxHeartbeats 4000000 in
set_option maxRecDepth 100000 in
theorem z_M_meetsAbove_j173 {g : GP} {x : CX} {d : Nat} (X : zX g x RX12 cX12_meetsAbove 9 (d + 1)) (hd : 1 ≤ d) (IH : M_meets_G_IH (xl x) g d) (l0 l1 l2 l3 l4 l5 l6 l7 l8 : Int) (h : Hp) (y : (Int × Hp) ⊕ (Hp)) (hf : M_meetsAbove_j173 (M_meets_G d) d l0 l1 l2 l3 l4 l5 l6 l7 l8 h = some y) (E : Hp → Prop) (hx0 : ∀ e : Hp, E (e) → ZV g x 9 e 179 [(0, (2, l0)), (1, (0, l1)), (2, (0, l2)), (3, (0, l3)), (4, (0, l4)), (5, (0, l5)), (6, (0, l6)), (7, (0, l7))] []) (hk : z_sum (fun q : Int × Hp => ZV g x 9 q.2 98 [(0, (2, l0)), (1, (0, l1)), (2, (0, l2)), (3, (0, l3)), (4, (0, l4)), (5, (0, l5)), (6, (0, l6)), (7, (0, l7)), (8, (0, q.1))] []) E y) : ZV g x 9 h 173 [(0, (2, l0)), (1, (0, l1)), (2, (0, l2)), (3, (0, l3)), (4, (0, l4)), (5, (0, l5)), (6, (0, l6)), (7, (0, l7)), (8, (0, l8))] [] := by
  unfold M_meetsAbove_j173 at hf
  refine z_iinc X dX12_meetsAbove_173 8 rfl (by decide) (ls' := [(8, (0, w32 (l8 + 1))), (0, (2, l0)), (1, (0, l1)), (2, (0, l2)), (3, (0, l3)), (4, (0, l4)), (5, (0, l5)), (6, (0, l6)), (7, (0, l7))]) rfl ?_
  refine z_goto X dX12_meetsAbove_176 rfl ?_
  cases hf
  exact z_weak [1, 2, 3, 4, 5, 6, 7, 8, 0] rfl hk
set_option maxHeartbeats 4000000 in
set_option maxRecDepth 100000 in
theorem z_M_meetsAbove_L98 {g : GP} {x : CX} {d : Nat} (X : zX g x RX12 cX12_meetsAbove 9 (d + 1)) (hd : 1 ≤ d) (IH : M_meets_G_IH (xl x) g d) (l0 l1 l2 l3 l4 l5 l6 l7 : Int)  (E : Hp → Prop) (hx0 : ∀ e : Hp, E (e) → ZV g x 9 e 179 [(0, (2, l0)), (1, (0, l1)), (2, (0, l2)), (3, (0, l3)), (4, (0, l4)), (5, (0, l5)), (6, (0, l6)), (7, (0, l7))] []) (l8 : Int) (h : Hp) (y : (Int × Hp) ⊕ (Hp)) (hf : M_meetsAbove_L98 (M_meets_G d) d l0 l1 l2 l3 l4 l5 l6 l7 l8 h = some y) (hk : z_sum (fun q : Int × Hp => ZV g x 9 q.2 98 [(0, (2, l0)), (1, (0, l1)), (2, (0, l2)), (3, (0, l3)), (4, (0, l4)), (5, (0, l5)), (6, (0, l6)), (7, (0, l7)), (8, (0, q.1))] []) E y) : ZV g x 9 h 98 [(0, (2, l0)), (1, (0, l1)), (2, (0, l2)), (3, (0, l3)), (4, (0, l4)), (5, (0, l5)), (6, (0, l6)), (7, (0, l7)), (8, (0, l8))] [] := by
  unfold M_meetsAbove_L98 at hf
  refine z_iload X dX12_meetsAbove_98 8 rfl ?_
  refine z_iload_n X dX12_meetsAbove_100 3 rfl ?_
  refine z_icmp_gt X dX12_meetsAbove_101 rfl (fun hc101 => ?_) (fun hc101 => ?_)
  · have hf := ift hc101 hf
    cases hf
    exact z_weak [0, 1, 2, 3, 4, 5, 6, 7] rfl (hx0 _ hk)
  · have hf := iff' hc101 hf
    refine z_aload_n X dX12_meetsAbove_104 0 rfl ?_
    refine z_iload_n X dX12_meetsAbove_105 1 rfl ?_
    refine z_iload X dX12_meetsAbove_106 6 rfl ?_
    refine z_iload X dX12_meetsAbove_108 7 rfl ?_
    refine z_iload X dX12_meetsAbove_110 8 rfl ?_
    refine z_iload_n X dX12_meetsAbove_112 2 rfl ?_
    refine z_iload_n X dX12_meetsAbove_113 3 rfl ?_
    refine z_iload X dX12_meetsAbove_114 4 rfl ?_
    refine z_iload X dX12_meetsAbove_116 5 rfl ?_
    obtain ⟨g6, hf⟩ := gif hf
    obtain ⟨r118, hr118, hf⟩ := obE hf
    refine y_V1 X cv_RX12_300 dX12_meetsAbove_118 g6 (c_M_waysAround d l0 l1 l6 l7 l8 l2 l3 l4 l5 h r118 hr118) (as := [(0, l1), (0, l6), (0, l7), (0, l8), (0, l2), (0, l3), (0, l4), (0, l5)]) rfl rfl (Nat.le_of_ble_eq_true rfl) z00 ?_
    refine z_lconst0 X dX12_meetsAbove_121 ?_
    refine z_l_ne X dX12_meetsAbove_122 dX12_meetsAbove_123 rfl (fun hc122 => ?_) (fun hc122 => ?_)
    · have hf := iff' hc122 hf
      refine z_aload_n X dX12_meetsAbove_129 0 rfl ?_
      refine z_dup X ne2 dX12_meetsAbove_130 ?_
      refine y_get X fl_RX12_412 dX12_meetsAbove_131 g6 ?_
      refine z_iconst X dX12_meetsAbove_134 kc_1 ?_
      refine z_iload X dX12_meetsAbove_135 6 rfl ?_
      refine z_ishl X dX12_meetsAbove_137 ?_
      refine z_ior X dX12_meetsAbove_138 ?_
      refine y_put X fl_RX12_412 dX12_meetsAbove_139 g6 rfl (by decide) ?_
      let h_1 : Hp := hput r118.2 l0 45 (i_or (r118.2 l0 45) (i_shl 1 l6))
      refine z_aload_n X dX12_meetsAbove_142 0 rfl ?_
      refine z_iconst X dX12_meetsAbove_143 kc_1 ?_
      refine z_aload_n X dX12_meetsAbove_144 0 rfl ?_
      refine z_iload X dX12_meetsAbove_145 6 rfl ?_
      obtain ⟨r147, hr147, hf⟩ := obE hf
      refine y_V1 X cv_RX12_268 dX12_meetsAbove_147 g6 (c_M_root d (Nat.zero_le _) l0 l6 h_1 r147 hr147) (as := [(0, l6)]) rfl rfl (Nat.le_of_ble_eq_true rfl) z00 ?_
      refine z_iload_n X dX12_meetsAbove_150 2 rfl ?_
      refine z_iload_n X dX12_meetsAbove_151 3 rfl ?_
      refine z_iload X dX12_meetsAbove_152 7 rfl ?_
      refine z_iload X dX12_meetsAbove_154 8 rfl ?_
      obtain ⟨r156, hr156, hf⟩ := obE hf
      refine y_V0 X cv_RX12_408 dX12_meetsAbove_156 g6 (IH.1 l0 1 r147 l2 l3 l7 l8 h_1 r156 hr156) (as := [(0, 1), (0, r147), (0, l2), (0, l3), (0, l7), (0, l8)]) rfl rfl (Nat.le_of_ble_eq_true rfl) z00 ?_
      refine z_aload_n X dX12_meetsAbove_159 0 rfl ?_
      refine z_iconst X dX12_meetsAbove_160 kc_0 ?_
      refine z_iload_n X dX12_meetsAbove_161 1 rfl ?_
      refine z_iload X dX12_meetsAbove_162 7 rfl ?_
      refine z_iload X dX12_meetsAbove_164 8 rfl ?_
      refine z_iload X dX12_meetsAbove_166 4 rfl ?_
      refine z_iload X dX12_meetsAbove_168 5 rfl ?_
      obtain ⟨r170, hr170, hf⟩ := obE hf
      refine y_V0 X cv_RX12_408 dX12_meetsAbove_170 g6 (IH.1 l0 0 l1 l7 l8 l4 l5 r156 r170 hr170) (as := [(0, 0), (0, l1), (0, l7), (0, l8), (0, l4), (0, l5)]) rfl rfl (Nat.le_of_ble_eq_true rfl) z00 ?_
      exact (z_M_meetsAbove_j173 X hd IH l0 l1 l2 l3 l4 l5 l6 l7 l8 r170 _ hf E hx0 hk)
    · have hf := ift hc122 hf
      refine z_goto X dX12_meetsAbove_126 rfl ?_
      exact (z_M_meetsAbove_j173 X hd IH l0 l1 l2 l3 l4 l5 l6 l7 l8 r118.2 _ hf E hx0 hk)
set_option maxHeartbeats 4000000 in
set_option maxRecDepth 100000 in
theorem z_M_meetsAbove_j96 {g : GP} {x : CX} {d : Nat} (X : zX g x RX12 cX12_meetsAbove 9 (d + 1)) (hd : 1 ≤ d) (IH : M_meets_G_IH (xl x) g d) (l0 l1 l2 l3 l4 l5 l6 l7 s0 : Int) (h : Hp) (y : (Int × Hp) ⊕ (Hp)) (hf : M_meetsAbove_j96 (M_meets_G d) d l0 l1 l2 l3 l4 l5 l6 l7 s0 h = some y) (E : Hp → Prop) (hx0 : ∀ e : Hp, E (e) → ZV g x 9 e 185 [(0, (2, l0)), (1, (0, l1)), (2, (0, l2)), (3, (0, l3)), (4, (0, l4)), (5, (0, l5)), (6, (0, l6))] []) (hk : z_sum (fun q : Int × Hp => ZV g x 9 q.2 66 [(0, (2, l0)), (1, (0, l1)), (2, (0, l2)), (3, (0, l3)), (4, (0, l4)), (5, (0, l5)), (6, (0, l6)), (7, (0, q.1))] []) E y) : ZV g x 9 h 96 [(0, (2, l0)), (1, (0, l1)), (2, (0, l2)), (3, (0, l3)), (4, (0, l4)), (5, (0, l5)), (6, (0, l6)), (7, (0, l7))] [(0, s0)] := by
  unfold M_meetsAbove_j96 at hf
  refine z_istore X dX12_meetsAbove_96 (by decide) (ls' := [(8, (0, s0)), (0, (2, l0)), (1, (0, l1)), (2, (0, l2)), (3, (0, l3)), (4, (0, l4)), (5, (0, l5)), (6, (0, l6)), (7, (0, l7))]) rfl ?_
  obtain ⟨q98, hq98, hf⟩ := obE hf
  have hx98_0 : ∀ e179 : Hp, (e179 : Hp) = q98 → ZV g x 9 e179 179 [(0, (2, l0)), (1, (0, l1)), (2, (0, l2)), (3, (0, l3)), (4, (0, l4)), (5, (0, l5)), (6, (0, l6)), (7, (0, l7))] [] := by
    intro e179 hq
    subst hq
    refine z_iinc X dX12_meetsAbove_179 7 rfl (by decide) (ls' := [(7, (0, w32 (l7 + 1))), (0, (2, l0)), (1, (0, l1)), (2, (0, l2)), (3, (0, l3)), (4, (0, l4)), (5, (0, l5)), (6, (0, l6))]) rfl ?_
    refine z_goto X dX12_meetsAbove_182 rfl ?_
    cases hf
    exact z_weak [1, 2, 3, 4, 5, 6, 7, 0] rfl hk
  exact z_weak [1, 2, 3, 4, 5, 6, 7, 8, 0] rfl (z_loop (Z := (fun q : Int × Hp => ZV g x 9 q.2 98 [(0, (2, l0)), (1, (0, l1)), (2, (0, l2)), (3, (0, l3)), (4, (0, l4)), (5, (0, l5)), (6, (0, l6)), (7, (0, l7)), (8, (0, q.1))] [])) (E := fun q => q = q98) (fun q y hb hk => z_M_meetsAbove_L98 X hd IH l0 l1 l2 l3 l4 l5 l6 l7 (fun q => q = q98) hx98_0 q.1 q.2 y hb hk) LN (s0, h) q98 hq98 rfl)
set_option maxHeartbeats 4000000 in
set_option maxRecDepth 100000 in
theorem z_M_meetsAbove_j80 {g : GP} {x : CX} {d : Nat} (X : zX g x RX12 cX12_meetsAbove 9 (d + 1)) (hd : 1 ≤ d) (IH : M_meets_G_IH (xl x) g d) (l0 l1 l2 l3 l4 l5 l6 l7 s0 s1 : Int) (h : Hp) (y : (Int × Hp) ⊕ (Hp)) (hf : M_meetsAbove_j80 (M_meets_G d) d l0 l1 l2 l3 l4 l5 l6 l7 s0 s1 h = some y) (E : Hp → Prop) (hx0 : ∀ e : Hp, E (e) → ZV g x 9 e 185 [(0, (2, l0)), (1, (0, l1)), (2, (0, l2)), (3, (0, l3)), (4, (0, l4)), (5, (0, l5)), (6, (0, l6))] []) (hk : z_sum (fun q : Int × Hp => ZV g x 9 q.2 66 [(0, (2, l0)), (1, (0, l1)), (2, (0, l2)), (3, (0, l3)), (4, (0, l4)), (5, (0, l5)), (6, (0, l6)), (7, (0, q.1))] []) E y) : ZV g x 9 h 80 [(0, (2, l0)), (1, (0, l1)), (2, (0, l2)), (3, (0, l3)), (4, (0, l4)), (5, (0, l5)), (6, (0, l6)), (7, (0, l7))] [(0, s0), (0, s1)] := by
  unfold M_meetsAbove_j80 at hf
  refine z_icmp_gt X dX12_meetsAbove_80 rfl (fun hc80 => ?_) (fun hc80 => ?_)
  · have hf := ift hc80 hf
    cases hf
    exact z_weak [0, 1, 2, 3, 4, 5, 6] rfl (hx0 _ hk)
  · have hf := iff' hc80 hf
    refine z_iload X dX12_meetsAbove_83 4 rfl ?_
    refine z_iconst X dX12_meetsAbove_85 kc_m1 ?_
    refine z_icmp_ne X dX12_meetsAbove_86 rfl (fun hc86 => ?_) (fun hc86 => ?_)
    · rw [if_neg hc86] at hf
      refine z_iload X dX12_meetsAbove_94 5 rfl ?_
      exact (z_M_meetsAbove_j96 X hd IH l0 l1 l2 l3 l4 l5 l6 l7 l5 h _ hf E hx0 hk)
    · rw [if_pos hc86] at hf
      refine z_iload X dX12_meetsAbove_89 7 rfl ?_
      refine z_goto X dX12_meetsAbove_91 rfl ?_
      exact (z_M_meetsAbove_j96 X hd IH l0 l1 l2 l3 l4 l5 l6 l7 l7 h _ hf E hx0 hk)
set_option maxHeartbeats 4000000 in
set_option maxRecDepth 100000 in
theorem z_M_meetsAbove_L66 {g : GP} {x : CX} {d : Nat} (X : zX g x RX12 cX12_meetsAbove 9 (d + 1)) (hd : 1 ≤ d) (IH : M_meets_G_IH (xl x) g d) (l0 l1 l2 l3 l4 l5 l6 : Int)  (E : Hp → Prop) (hx0 : ∀ e : Hp, E (e) → ZV g x 9 e 185 [(0, (2, l0)), (1, (0, l1)), (2, (0, l2)), (3, (0, l3)), (4, (0, l4)), (5, (0, l5)), (6, (0, l6))] []) (l7 : Int) (h : Hp) (y : (Int × Hp) ⊕ (Hp)) (hf : M_meetsAbove_L66 (M_meets_G d) d l0 l1 l2 l3 l4 l5 l6 l7 h = some y) (hk : z_sum (fun q : Int × Hp => ZV g x 9 q.2 66 [(0, (2, l0)), (1, (0, l1)), (2, (0, l2)), (3, (0, l3)), (4, (0, l4)), (5, (0, l5)), (6, (0, l6)), (7, (0, q.1))] []) E y) : ZV g x 9 h 66 [(0, (2, l0)), (1, (0, l1)), (2, (0, l2)), (3, (0, l3)), (4, (0, l4)), (5, (0, l5)), (6, (0, l6)), (7, (0, l7))] [] := by
  unfold M_meetsAbove_L66 at hf
  refine z_iload X dX12_meetsAbove_66 7 rfl ?_
  refine z_iload X dX12_meetsAbove_68 4 rfl ?_
  refine z_iconst X dX12_meetsAbove_70 kc_m1 ?_
  refine z_icmp_ne X dX12_meetsAbove_71 rfl (fun hc71 => ?_) (fun hc71 => ?_)
  · rw [if_neg hc71] at hf
    refine z_iload X dX12_meetsAbove_78 4 rfl ?_
    exact (z_M_meetsAbove_j80 X hd IH l0 l1 l2 l3 l4 l5 l6 l7 l4 l7 h _ hf E hx0 hk)
  · rw [if_pos hc71] at hf
    refine z_iload_n X dX12_meetsAbove_74 3 rfl ?_
    refine z_goto X dX12_meetsAbove_75 rfl ?_
    exact (z_M_meetsAbove_j80 X hd IH l0 l1 l2 l3 l4 l5 l6 l7 l3 l7 h _ hf E hx0 hk)
set_option maxHeartbeats 4000000 in
set_option maxRecDepth 100000 in
theorem z_M_meetsAbove_j185 {g : GP} {x : CX} {d : Nat} (X : zX g x RX12 cX12_meetsAbove 9 (d + 1)) (hd : 1 ≤ d) (IH : M_meets_G_IH (xl x) g d) (l0 l1 l2 l3 l4 l5 l6 : Int) (h : Hp) (y : (Int × Hp) ⊕ (Hp)) (hf : M_meetsAbove_j185 (M_meets_G d) d l0 l1 l2 l3 l4 l5 l6 h = some y) (E : Hp → Prop) (hx0 : ∀ e : Hp, E (e) → ZV g x 9 e 191 [] []) (hk : z_sum (fun q : Int × Hp => ZV g x 9 q.2 25 [(0, (2, l0)), (1, (0, l1)), (2, (0, l2)), (3, (0, l3)), (4, (0, l4)), (5, (0, l5)), (6, (0, q.1))] []) E y) : ZV g x 9 h 185 [(0, (2, l0)), (1, (0, l1)), (2, (0, l2)), (3, (0, l3)), (4, (0, l4)), (5, (0, l5)), (6, (0, l6))] [] := by
  unfold M_meetsAbove_j185 at hf
  refine z_iinc X dX12_meetsAbove_185 6 rfl (by decide) (ls' := [(6, (0, w32 (l6 + 1))), (0, (2, l0)), (1, (0, l1)), (2, (0, l2)), (3, (0, l3)), (4, (0, l4)), (5, (0, l5))]) rfl ?_
  refine z_goto X dX12_meetsAbove_188 rfl ?_
  cases hf
  exact z_weak [1, 2, 3, 4, 5, 6, 0] rfl hk
set_option maxHeartbeats 4000000 in
set_option maxRecDepth 100000 in
theorem z_M_meetsAbove_L25 {g : GP} {x : CX} {d : Nat} (X : zX g x RX12 cX12_meetsAbove 9 (d + 1)) (hd : 1 ≤ d) (IH : M_meets_G_IH (xl x) g d) (l0 l1 l2 l3 l4 l5 : Int)  (E : Hp → Prop) (hx0 : ∀ e : Hp, E (e) → ZV g x 9 e 191 [] []) (l6 : Int) (h : Hp) (y : (Int × Hp) ⊕ (Hp)) (hf : M_meetsAbove_L25 (M_meets_G d) d l0 l1 l2 l3 l4 l5 l6 h = some y) (hk : z_sum (fun q : Int × Hp => ZV g x 9 q.2 25 [(0, (2, l0)), (1, (0, l1)), (2, (0, l2)), (3, (0, l3)), (4, (0, l4)), (5, (0, l5)), (6, (0, q.1))] []) E y) : ZV g x 9 h 25 [(0, (2, l0)), (1, (0, l1)), (2, (0, l2)), (3, (0, l3)), (4, (0, l4)), (5, (0, l5)), (6, (0, l6))] [] := by
  unfold M_meetsAbove_L25 at hf
  refine z_iload X dX12_meetsAbove_25 6 rfl ?_
  refine z_aload_n X dX12_meetsAbove_27 0 rfl ?_
  obtain ⟨g3, hf⟩ := gif hf
  refine y_get X fl_RX12_11 dX12_meetsAbove_28 g3 ?_
  refine z_icmp_ge X dX12_meetsAbove_31 rfl (fun hc31 => ?_) (fun hc31 => ?_)
  · have hf := ift hc31 hf
    cases hf
    exact z_weak [] rfl (hx0 _ hk)
  · have hf := iff' hc31 hf
    refine z_aload_n X dX12_meetsAbove_34 0 rfl ?_
    refine y_get X fl_RX12_104 dX12_meetsAbove_35 g3 ?_
    refine z_iload_n X dX12_meetsAbove_38 1 rfl ?_
    obtain ⟨g4, hf⟩ := gif hf
    refine y_iald X dX12_meetsAbove_39 g4 ?_
    refine z_iconst X dX12_meetsAbove_40 kc_1 ?_
    refine z_icmp_eq X dX12_meetsAbove_41 rfl (fun hc41 => ?_) (fun hc41 => ?_)
    · have hf := ift hc41 hf
      cases hf
      exact z_weak [] rfl (hx0 _ hk)
    · have hf := iff' hc41 hf
      refine z_aload_n X dX12_meetsAbove_44 0 rfl ?_
      refine z_iload X dX12_meetsAbove_45 6 rfl ?_
      refine z_aload_n X dX12_meetsAbove_47 0 rfl ?_
      refine y_get X fl_RX12_101 dX12_meetsAbove_48 g3 ?_
      refine z_iload_n X dX12_meetsAbove_51 1 rfl ?_
      obtain ⟨g5, hf⟩ := gif hf
      refine y_iald X dX12_meetsAbove_52 g5 ?_
      refine z_iconst X dX12_meetsAbove_53 kc_1 ?_
      obtain ⟨r54, hr54, hf⟩ := obE hf
      refine y_V1 X cv_RX12_296 dX12_meetsAbove_54 g3 (c_M_mayGo d (Nat.le_trans (by decide) hd) l0 l6 (h (h l0 6) l1) 1 h r54 hr54) (as := [(0, l6), (0, h (h l0 6) l1), (0, 1)]) rfl rfl (Nat.le_of_ble_eq_true rfl) z00 ?_
      refine z_if_ne X dX12_meetsAbove_57 rfl (fun hc57 => ?_) (fun hc57 => ?_)
      · have hf := iff' hc57 hf
        refine z_iload_n X dX12_meetsAbove_63 2 rfl ?_
        refine z_istore X dX12_meetsAbove_64 (by decide) (ls' := [(7, (0, l2)), (0, (2, l0)), (1, (0, l1)), (2, (0, l2)), (3, (0, l3)), (4, (0, l4)), (5, (0, l5)), (6, (0, l6))]) rfl ?_
        obtain ⟨q66, hq66, hf⟩ := obE hf
        have hx66_0 : ∀ e185 : Hp, (e185 : Hp) = q66 → ZV g x 9 e185 185 [(0, (2, l0)), (1, (0, l1)), (2, (0, l2)), (3, (0, l3)), (4, (0, l4)), (5, (0, l5)), (6, (0, l6))] [] := by
          intro e185 hq
          subst hq
          exact (z_M_meetsAbove_j185 X hd IH l0 l1 l2 l3 l4 l5 l6 e185 _ hf E hx0 hk)
        exact z_weak [1, 2, 3, 4, 5, 6, 7, 0] rfl (z_loop (Z := (fun q : Int × Hp => ZV g x 9 q.2 66 [(0, (2, l0)), (1, (0, l1)), (2, (0, l2)), (3, (0, l3)), (4, (0, l4)), (5, (0, l5)), (6, (0, l6)), (7, (0, q.1))] [])) (E := fun q => q = q66) (fun q y hb hk => z_M_meetsAbove_L66 X hd IH l0 l1 l2 l3 l4 l5 l6 (fun q => q = q66) hx66_0 q.1 q.2 y hb hk) LN (l2, h) q66 hq66 rfl)
      · have hf := ift hc57 hf
        refine z_goto X dX12_meetsAbove_60 rfl ?_
        exact (z_M_meetsAbove_j185 X hd IH l0 l1 l2 l3 l4 l5 l6 h _ hf E hx0 hk)
set_option maxHeartbeats 4000000 in
set_option maxRecDepth 100000 in
theorem z_M_meetsAbove_j22 {g : GP} {x : CX} {d : Nat} (X : zX g x RX12 cX12_meetsAbove 9 (d + 1)) (hd : 1 ≤ d) (IH : M_meets_G_IH (xl x) g d) (l0 l1 l2 l3 l4 l5 : Int) (h : Hp) (y : Hp) (hf : M_meetsAbove_j22 (M_meets_G d) d l0 l1 l2 l3 l4 l5 h = some y) (hK : zE g x none 0 0 157 y none) : ZV g x 9 h 22 [(0, (2, l0)), (1, (0, l1)), (2, (0, l2)), (3, (0, l3)), (4, (0, l4)), (5, (0, l5))] [] := by
  unfold M_meetsAbove_j22 at hf
  refine z_iconst X dX12_meetsAbove_22 kc_0 ?_
  refine z_istore X dX12_meetsAbove_23 (by decide) (ls' := [(6, (0, 0)), (0, (2, l0)), (1, (0, l1)), (2, (0, l2)), (3, (0, l3)), (4, (0, l4)), (5, (0, l5))]) rfl ?_
  obtain ⟨q25, hq25, hf⟩ := obE hf
  have hx25_0 : ∀ e191 : Hp, (e191 : Hp) = q25 → ZV g x 9 e191 191 [] [] := by
    intro e191 hq
    subst hq
    cases hf
    exact z_vret X hK dX12_meetsAbove_191
  exact z_weak [1, 2, 3, 4, 5, 6, 0] rfl (z_loop (Z := (fun q : Int × Hp => ZV g x 9 q.2 25 [(0, (2, l0)), (1, (0, l1)), (2, (0, l2)), (3, (0, l3)), (4, (0, l4)), (5, (0, l5)), (6, (0, q.1))] [])) (E := fun q => q = q25) (fun q y hb hk => z_M_meetsAbove_L25 X hd IH l0 l1 l2 l3 l4 l5 (fun q => q = q25) hx25_0 q.1 q.2 y hb hk) LN (0, h) q25 hq25 rfl)
set_option maxHeartbeats 4000000 in
set_option maxRecDepth 100000 in
theorem cb_M_meetsAbove {l : Launch} {g : GP} {d : Nat} (IH : M_meets_G_IH l g d) (hd : 1 ≤ d) (l0 l1 l2 l3 l4 l5 : Int) (h : Hp) (y : Hp) (hf : M_meetsAbove_b (M_meets_G d) d l0 l1 l2 l3 l4 l5 h = some y) : zM l yX12_meetsAbove cX12_meetsAbove 9 none (d + 1) 0 0 g 157 h [(2, l0), (0, l1), (0, l2), (0, l3), (0, l4), (0, l5)] 157 y none := by
  refine z_start (by decide) (Nat.le_of_ble_eq_true rfl) (fun x X hK _ _ _ hl => ?_)
  have IH : M_meets_G_IH (xl x) g d := hl ▸ IH
  show ZV g x 9 h 0 [(0, (2, l0)), (1, (0, l1)), (2, (0, l2)), (3, (0, l3)), (4, (0, l4)), (5, (0, l5))] []
  unfold M_meetsAbove_b at hf
  refine z_aload_n X dX12_meetsAbove_0 0 rfl ?_
  obtain ⟨g1, hf⟩ := gif hf
  refine y_get X fl_RX12_104 dX12_meetsAbove_1 g1 ?_
  refine z_iload_n X dX12_meetsAbove_4 1 rfl ?_
  obtain ⟨g2, hf⟩ := gif hf
  refine y_iald X dX12_meetsAbove_5 g2 ?_
  refine z_iconst X dX12_meetsAbove_6 kc_2 ?_
  refine z_icmp_eq X dX12_meetsAbove_7 rfl (fun hc7 => ?_) (fun hc7 => ?_)
  · have hf := ift hc7 hf
    exact (z_M_meetsAbove_j22 X hd IH l0 l1 l2 l3 l4 l5 h _ hf hK)
  · have hf := iff' hc7 hf
    refine z_aload_n X dX12_meetsAbove_10 0 rfl ?_
    refine z_iconst X dX12_meetsAbove_11 kc_0 ?_
    refine z_iload_n X dX12_meetsAbove_12 1 rfl ?_
    refine z_iload_n X dX12_meetsAbove_13 2 rfl ?_
    refine z_iload_n X dX12_meetsAbove_14 3 rfl ?_
    refine z_iload X dX12_meetsAbove_15 4 rfl ?_
    refine z_iload X dX12_meetsAbove_17 5 rfl ?_
    obtain ⟨r19, hr19, hf⟩ := obE hf
    refine y_V0 X cv_RX12_408 dX12_meetsAbove_19 g1 (IH.1 l0 0 l1 l2 l3 l4 l5 h r19 hr19) (as := [(0, 0), (0, l1), (0, l2), (0, l3), (0, l4), (0, l5)]) rfl rfl (Nat.le_of_ble_eq_true rfl) z00 ?_
    exact (z_M_meetsAbove_j22 X hd IH l0 l1 l2 l3 l4 l5 r19 _ hf hK)
set_option maxHeartbeats 4000000 in
set_option maxRecDepth 100000 in
theorem cb_M_meetsHost {l : Launch} {g : GP} {d : Nat} (IH : M_meets_G_IH l g d) (hd : 1 ≤ d) (l0 l1 l2 l3 : Int) (h : Hp) (y : Hp) (hf : M_meetsHost_b (M_meets_G d) d l0 l1 l2 l3 h = some y) : zM l yX12_meetsHost cX12_meetsHost 4 none (d + 1) 0 0 g 157 h [(2, l0), (0, l1), (0, l2), (0, l3)] 157 y none := by
  refine z_start (by decide) (Nat.le_of_ble_eq_true rfl) (fun x X hK _ _ _ hl => ?_)
  have IH : M_meets_G_IH (xl x) g d := hl ▸ IH
  show ZV g x 4 h 0 [(0, (2, l0)), (1, (0, l1)), (2, (0, l2)), (3, (0, l3))] []
  unfold M_meetsHost_b at hf
  refine z_aload_n X dX12_meetsHost_0 0 rfl ?_
  refine z_iconst X dX12_meetsHost_1 kc_1 ?_
  refine z_aload_n X dX12_meetsHost_2 0 rfl ?_
  refine z_iload_n X dX12_meetsHost_3 1 rfl ?_
  obtain ⟨g1, hf⟩ := gif hf
  obtain ⟨r4, hr4, hf⟩ := obE hf
  refine y_V1 X cv_RX12_268 dX12_meetsHost_4 g1 (c_M_root d (Nat.zero_le _) l0 l1 h r4 hr4) (as := [(0, l1)]) rfl rfl (Nat.le_of_ble_eq_true rfl) z00 ?_
  refine z_iload_n X dX12_meetsHost_7 2 rfl ?_
  refine z_iload_n X dX12_meetsHost_8 3 rfl ?_
  refine z_iconst X dX12_meetsHost_9 kc_m1 ?_
  refine z_iconst X dX12_meetsHost_10 kc_m1 ?_
  obtain ⟨r11, hr11, hf⟩ := obE hf
  refine y_V1 X cv_RX12_292 dX12_meetsHost_11 g1 (c_M_waysOf d l0 1 r4 l2 l3 ((-1)) ((-1)) h r11 hr11) (as := [(0, 1), (0, r4), (0, l2), (0, l3), (0, (-1)), (0, (-1))]) rfl rfl (Nat.le_of_ble_eq_true rfl) z00 ?_
  refine z_lconst0 X dX12_meetsHost_14 ?_
  refine z_l_ne X dX12_meetsHost_15 dX12_meetsHost_16 rfl (fun hc15 => ?_) (fun hc15 => ?_)
  · have hf := iff' hc15 hf
    refine z_aload_n X dX12_meetsHost_20 0 rfl ?_
    refine z_dup X ne2 dX12_meetsHost_21 ?_
    refine y_get X fl_RX12_412 dX12_meetsHost_22 g1 ?_
    refine z_iconst X dX12_meetsHost_25 kc_1 ?_
    refine z_iload_n X dX12_meetsHost_26 1 rfl ?_
    refine z_ishl X dX12_meetsHost_27 ?_
    refine z_ior X dX12_meetsHost_28 ?_
    refine y_put X fl_RX12_412 dX12_meetsHost_29 g1 rfl (by decide) ?_
    let h_1 : Hp := hput r11.2 l0 45 (i_or (r11.2 l0 45) (i_shl 1 l1))
    refine z_aload_n X dX12_meetsHost_32 0 rfl ?_
    refine z_iconst X dX12_meetsHost_33 kc_1 ?_
    refine z_aload_n X dX12_meetsHost_34 0 rfl ?_
    refine z_iload_n X dX12_meetsHost_35 1 rfl ?_
    obtain ⟨r36, hr36, hf⟩ := obE hf
    refine y_V1 X cv_RX12_268 dX12_meetsHost_36 g1 (c_M_root d (Nat.zero_le _) l0 l1 h_1 r36 hr36) (as := [(0, l1)]) rfl rfl (Nat.le_of_ble_eq_true rfl) z00 ?_
    refine z_iload_n X dX12_meetsHost_39 2 rfl ?_
    refine z_iload_n X dX12_meetsHost_40 3 rfl ?_
    refine z_iconst X dX12_meetsHost_41 kc_m1 ?_
    refine z_iconst X dX12_meetsHost_42 kc_m1 ?_
    obtain ⟨r43, hr43, hf⟩ := obE hf
    refine y_V0 X cv_RX12_408 dX12_meetsHost_43 g1 (IH.1 l0 1 r36 l2 l3 ((-1)) ((-1)) h_1 r43 hr43) (as := [(0, 1), (0, r36), (0, l2), (0, l3), (0, (-1)), (0, (-1))]) rfl rfl (Nat.le_of_ble_eq_true rfl) z00 ?_
    cases hf
    exact z_vret X hK dX12_meetsHost_46
  · have hf := ift hc15 hf
    cases hf
    exact z_vret X hK dX12_meetsHost_19
set_option maxHeartbeats 4000000 in
set_option maxRecDepth 100000 in
theorem z_M_meetsBelow_j219 {g : GP} {x : CX} {d : Nat} (X : zX g x RX12 cX12_meetsBelow 9 (d + 1)) (hd : 1 ≤ d) (IH : M_meets_G_IH (xl x) g d) (l0 l1 l2 l3 l4 l5 l6 l7 l8 : Int) (h : Hp) (y : (Int × Hp) ⊕ (Hp)) (hf : M_meetsBelow_j219 (M_meets_G d) d l0 l1 l2 l3 l4 l5 l6 l7 l8 h = some y) (E : Hp → Prop) (hx0 : ∀ e : Hp, E (e) → ZV g x 9 e 225 [] []) (hk : z_sum (fun q : Int × Hp => ZV g x 9 q.2 120 [(0, (2, l0)), (1, (0, l1)), (2, (0, l2)), (3, (0, l3)), (4, (0, l4)), (5, (0, l5)), (6, (0, l6)), (7, (0, l7)), (8, (0, q.1))] []) E y) : ZV g x 9 h 219 [(0, (2, l0)), (1, (0, l1)), (2, (0, l2)), (3, (0, l3)), (4, (0, l4)), (5, (0, l5)), (6, (0, l6)), (7, (0, l7)), (8, (0, l8))] [] := by
  unfold M_meetsBelow_j219 at hf
  refine z_iinc X dX12_meetsBelow_219 8 rfl (by decide) (ls' := [(8, (0, w32 (l8 + 1))), (0, (2, l0)), (1, (0, l1)), (2, (0, l2)), (3, (0, l3)), (4, (0, l4)), (5, (0, l5)), (6, (0, l6)), (7, (0, l7))]) rfl ?_
  refine z_goto X dX12_meetsBelow_222 rfl ?_
  cases hf
  exact z_weak [1, 2, 3, 4, 5, 6, 7, 8, 0] rfl hk
set_option maxHeartbeats 4000000 in
set_option maxRecDepth 100000 in
theorem z_M_meetsBelow_j216 {g : GP} {x : CX} {d : Nat} (X : zX g x RX12 cX12_meetsBelow 9 (d + 1)) (hd : 1 ≤ d) (IH : M_meets_G_IH (xl x) g d) (l0 l1 l2 l3 l4 l5 l6 l7 l8 s0 s1 s2 s3 s4 s5 s6 : Int) (h : Hp) (y : (Int × Hp) ⊕ (Hp)) (hf : M_meetsBelow_j216 (M_meets_G d) d l0 l1 l2 l3 l4 l5 l6 l7 l8 s0 s1 s2 s3 s4 s5 s6 h = some y) (E : Hp → Prop) (hx0 : ∀ e : Hp, E (e) → ZV g x 9 e 225 [] []) (hk : z_sum (fun q : Int × Hp => ZV g x 9 q.2 120 [(0, (2, l0)), (1, (0, l1)), (2, (0, l2)), (3, (0, l3)), (4, (0, l4)), (5, (0, l5)), (6, (0, l6)), (7, (0, l7)), (8, (0, q.1))] []) E y) : ZV g x 9 h 216 [(0, (2, l0)), (1, (0, l1)), (2, (0, l2)), (3, (0, l3)), (4, (0, l4)), (5, (0, l5)), (6, (0, l6)), (7, (0, l7)), (8, (0, l8))] [(0, s0), (0, s1), (0, s2), (0, s3), (0, s4), (0, s5), (2, s6)] := by
  unfold M_meetsBelow_j216 at hf
  obtain ⟨g12, hf⟩ := gif hf
  obtain ⟨r216, hr216, hf⟩ := obE hf
  refine y_V0 X cv_RX12_408 dX12_meetsBelow_216 g12 (IH.1 s6 s5 s4 s3 s2 s1 s0 h r216 hr216) (as := [(0, s5), (0, s4), (0, s3), (0, s2), (0, s1), (0, s0)]) rfl rfl (Nat.le_of_ble_eq_true rfl) z00 ?_
  exact (z_M_meetsBelow_j219 X hd IH l0 l1 l2 l3 l4 l5 l6 l7 l8 r216 _ hf E hx0 hk)
set_option maxHeartbeats 4000000 in
set_option maxRecDepth 100000 in
theorem z_M_meetsBelow_j205 {g : GP} {x : CX} {d : Nat} (X : zX g x RX12 cX12_meetsBelow 9 (d + 1)) (hd : 1 ≤ d) (IH : M_meets_G_IH (xl x) g d) (l0 l1 l2 l3 l4 l5 l6 l7 l8 s0 s1 s2 s3 s4 s5 : Int) (h : Hp) (y : (Int × Hp) ⊕ (Hp)) (hf : M_meetsBelow_j205 (M_meets_G d) d l0 l1 l2 l3 l4 l5 l6 l7 l8 s0 s1 s2 s3 s4 s5 h = some y) (E : Hp → Prop) (hx0 : ∀ e : Hp, E (e) → ZV g x 9 e 225 [] []) (hk : z_sum (fun q : Int × Hp => ZV g x 9 q.2 120 [(0, (2, l0)), (1, (0, l1)), (2, (0, l2)), (3, (0, l3)), (4, (0, l4)), (5, (0, l5)), (6, (0, l6)), (7, (0, l7)), (8, (0, q.1))] []) E y) : ZV g x 9 h 205 [(0, (2, l0)), (1, (0, l1)), (2, (0, l2)), (3, (0, l3)), (4, (0, l4)), (5, (0, l5)), (6, (0, l6)), (7, (0, l7)), (8, (0, l8))] [(0, s0), (0, s1), (0, s2), (0, s3), (0, s4), (2, s5)] := by
  unfold M_meetsBelow_j205 at hf
  refine z_iload X dX12_meetsBelow_205 7 rfl ?_
  refine z_if_eq X dX12_meetsBelow_207 rfl (fun hc207 => ?_) (fun hc207 => ?_)
  · rw [if_pos hc207] at hf
    refine z_iconst X dX12_meetsBelow_215 kc_m1 ?_
    exact (z_M_meetsBelow_j216 X hd IH l0 l1 l2 l3 l4 l5 l6 l7 l8 ((-1)) s0 s1 s2 s3 s4 s5 h _ hf E hx0 hk)
  · rw [if_neg hc207] at hf
    refine z_iload X dX12_meetsBelow_210 5 rfl ?_
    refine z_goto X dX12_meetsBelow_212 rfl ?_
    exact (z_M_meetsBelow_j216 X hd IH l0 l1 l2 l3 l4 l5 l6 l7 l8 l5 s0 s1 s2 s3 s4 s5 h _ hf E hx0 hk)
set_option maxHeartbeats 4000000 in
set_option maxRecDepth 100000 in
theorem z_M_meetsBelow_j180 {g : GP} {x : CX} {d : Nat} (X : zX g x RX12 cX12_meetsBelow 9 (d + 1)) (hd : 1 ≤ d) (IH : M_meets_G_IH (xl x) g d) (l0 l1 l2 l3 l4 l5 l6 l7 l8 s0 s1 s2 s3 s4 s5 s6 : Int) (h : Hp) (y : (Int × Hp) ⊕ (Hp)) (hf : M_meetsBelow_j180 (M_meets_G d) d l0 l1 l2 l3 l4 l5 l6 l7 l8 s0 s1 s2 s3 s4 s5 s6 h = some y) (E : Hp → Prop) (hx0 : ∀ e : Hp, E (e) → ZV g x 9 e 225 [] []) (hk : z_sum (fun q : Int × Hp => ZV g x 9 q.2 120 [(0, (2, l0)), (1, (0, l1)), (2, (0, l2)), (3, (0, l3)), (4, (0, l4)), (5, (0, l5)), (6, (0, l6)), (7, (0, l7)), (8, (0, q.1))] []) E y) : ZV g x 9 h 180 [(0, (2, l0)), (1, (0, l1)), (2, (0, l2)), (3, (0, l3)), (4, (0, l4)), (5, (0, l5)), (6, (0, l6)), (7, (0, l7)), (8, (0, l8))] [(0, s0), (0, s1), (0, s2), (0, s3), (0, s4), (0, s5), (2, s6)] := by
  unfold M_meetsBelow_j180 at hf
  obtain ⟨g9, hf⟩ := gif hf
  obtain ⟨r180, hr180, hf⟩ := obE hf
  refine y_V0 X cv_RX12_408 dX12_meetsBelow_180 g9 (IH.1 s6 s5 s4 s3 s2 s1 s0 h r180 hr180) (as := [(0, s5), (0, s4), (0, s3), (0, s2), (0, s1), (0, s0)]) rfl rfl (Nat.le_of_ble_eq_true rfl) z00 ?_
  refine z_aload_n X dX12_meetsBelow_183 0 rfl ?_
  refine z_iconst X dX12_meetsBelow_184 kc_1 ?_
  refine z_aload_n X dX12_meetsBelow_185 0 rfl ?_
  obtain ⟨g10, hf⟩ := gif hf
  refine y_get X fl_RX12_110 dX12_meetsBelow_186 g10 ?_
  refine z_iload_n X dX12_meetsBelow_189 1 rfl ?_
  obtain ⟨g11, hf⟩ := gif hf
  refine y_iald X dX12_meetsBelow_190 g11 ?_
  refine z_iload X dX12_meetsBelow_191 8 rfl ?_
  refine z_iload_n X dX12_meetsBelow_193 3 rfl ?_
  refine z_iload X dX12_meetsBelow_194 7 rfl ?_
  refine z_if_eq X dX12_meetsBelow_196 rfl (fun hc196 => ?_) (fun hc196 => ?_)
  · rw [if_pos hc196] at hf
    refine z_iconst X dX12_meetsBelow_204 kc_m1 ?_
    exact (z_M_meetsBelow_j205 X hd IH l0 l1 l2 l3 l4 l5 l6 l7 l8 ((-1)) l3 l8 (r180 (r180 l0 9) l1) 1 l0 r180 _ hf E hx0 hk)
  · rw [if_neg hc196] at hf
    refine z_iload X dX12_meetsBelow_199 4 rfl ?_
    refine z_goto X dX12_meetsBelow_201 rfl ?_
    exact (z_M_meetsBelow_j205 X hd IH l0 l1 l2 l3 l4 l5 l6 l7 l8 l4 l3 l8 (r180 (r180 l0 9) l1) 1 l0 r180 _ hf E hx0 hk)
set_option maxHeartbeats 4000000 in
set_option maxRecDepth 100000 in
theorem z_M_meetsBelow_j169 {g : GP} {x : CX} {d : Nat} (X : zX g x RX12 cX12_meetsBelow 9 (d + 1)) (hd : 1 ≤ d) (IH : M_meets_G_IH (xl x) g d) (l0 l1 l2 l3 l4 l5 l6 l7 l8 s0 s1 s2 s3 s4 s5 : Int) (h : Hp) (y : (Int × Hp) ⊕ (Hp)) (hf : M_meetsBelow_j169 (M_meets_G d) d l0 l1 l2 l3 l4 l5 l6 l7 l8 s0 s1 s2 s3 s4 s5 h = some y) (E : Hp → Prop) (hx0 : ∀ e : Hp, E (e) → ZV g x 9 e 225 [] []) (hk : z_sum (fun q : Int × Hp => ZV g x 9 q.2 120 [(0, (2, l0)), (1, (0, l1)), (2, (0, l2)), (3, (0, l3)), (4, (0, l4)), (5, (0, l5)), (6, (0, l6)), (7, (0, l7)), (8, (0, q.1))] []) E y) : ZV g x 9 h 169 [(0, (2, l0)), (1, (0, l1)), (2, (0, l2)), (3, (0, l3)), (4, (0, l4)), (5, (0, l5)), (6, (0, l6)), (7, (0, l7)), (8, (0, l8))] [(0, s0), (0, s1), (0, s2), (0, s3), (0, s4), (2, s5)] := by
  unfold M_meetsBelow_j169 at hf
  refine z_iload X dX12_meetsBelow_169 6 rfl ?_
  refine z_if_eq X dX12_meetsBelow_171 rfl (fun hc171 => ?_) (fun hc171 => ?_)
  · rw [if_pos hc171] at hf
    refine z_iconst X dX12_meetsBelow_179 kc_m1 ?_
    exact (z_M_meetsBelow_j180 X hd IH l0 l1 l2 l3 l4 l5 l6 l7 l8 ((-1)) s0 s1 s2 s3 s4 s5 h _ hf E hx0 hk)
  · rw [if_neg hc171] at hf
    refine z_iload X dX12_meetsBelow_174 5 rfl ?_
    refine z_goto X dX12_meetsBelow_176 rfl ?_
    exact (z_M_meetsBelow_j180 X hd IH l0 l1 l2 l3 l4 l5 l6 l7 l8 l5 s0 s1 s2 s3 s4 s5 h _ hf E hx0 hk)
set_option maxHeartbeats 4000000 in
set_option maxRecDepth 100000 in
theorem z_M_meetsBelow_L120 {g : GP} {x : CX} {d : Nat} (X : zX g x RX12 cX12_meetsBelow 9 (d + 1)) (hd : 1 ≤ d) (IH : M_meets_G_IH (xl x) g d) (l0 l1 l2 l3 l4 l5 l6 l7 : Int)  (E : Hp → Prop) (hx0 : ∀ e : Hp, E (e) → ZV g x 9 e 225 [] []) (l8 : Int) (h : Hp) (y : (Int × Hp) ⊕ (Hp)) (hf : M_meetsBelow_L120 (M_meets_G d) d l0 l1 l2 l3 l4 l5 l6 l7 l8 h = some y) (hk : z_sum (fun q : Int × Hp => ZV g x 9 q.2 120 [(0, (2, l0)), (1, (0, l1)), (2, (0, l2)), (3, (0, l3)), (4, (0, l4)), (5, (0, l5)), (6, (0, l6)), (7, (0, l7)), (8, (0, q.1))] []) E y) : ZV g x 9 h 120 [(0, (2, l0)), (1, (0, l1)), (2, (0, l2)), (3, (0, l3)), (4, (0, l4)), (5, (0, l5)), (6, (0, l6)), (7, (0, l7)), (8, (0, l8))] [] := by
  unfold M_meetsBelow_L120 at hf
  refine z_iload X dX12_meetsBelow_120 8 rfl ?_
  refine z_iload_n X dX12_meetsBelow_122 3 rfl ?_
  refine z_icmp_gt X dX12_meetsBelow_123 rfl (fun hc123 => ?_) (fun hc123 => ?_)
  · have hf := ift hc123 hf
    cases hf
    exact z_weak [] rfl (hx0 _ hk)
  · have hf := iff' hc123 hf
    refine z_aload_n X dX12_meetsBelow_126 0 rfl ?_
    refine z_iload_n X dX12_meetsBelow_127 1 rfl ?_
    refine z_iload_n X dX12_meetsBelow_128 2 rfl ?_
    refine z_iload X dX12_meetsBelow_129 8 rfl ?_
    refine z_iload_n X dX12_meetsBelow_131 3 rfl ?_
    refine z_iload X dX12_meetsBelow_132 4 rfl ?_
    refine z_iload X dX12_meetsBelow_134 5 rfl ?_
    obtain ⟨g7, hf⟩ := gif hf
    obtain ⟨r136, hr136, hf⟩ := obE hf
    refine y_V1 X cv_RX12_314 dX12_meetsBelow_136 g7 (c_M_waysSplit d l0 l1 l2 l8 l3 l4 l5 h r136 hr136) (as := [(0, l1), (0, l2), (0, l8), (0, l3), (0, l4), (0, l5)]) rfl rfl (Nat.le_of_ble_eq_true rfl) z00 ?_
    refine z_lconst0 X dX12_meetsBelow_139 ?_
    refine z_l_ne X dX12_meetsBelow_140 dX12_meetsBelow_141 rfl (fun hc140 => ?_) (fun hc140 => ?_)
    · have hf := iff' hc140 hf
      refine z_aload_n X dX12_meetsBelow_147 0 rfl ?_
      refine z_iconst X dX12_meetsBelow_148 kc_1 ?_
      refine z_aload_n X dX12_meetsBelow_149 0 rfl ?_
      refine y_get X fl_RX12_107 dX12_meetsBelow_150 g7 ?_
      refine z_iload_n X dX12_meetsBelow_153 1 rfl ?_
      obtain ⟨g8, hf⟩ := gif hf
      refine y_iald X dX12_meetsBelow_154 g8 ?_
      refine z_iload_n X dX12_meetsBelow_155 2 rfl ?_
      refine z_iload X dX12_meetsBelow_156 8 rfl ?_
      refine z_iload X dX12_meetsBelow_158 6 rfl ?_
      refine z_if_eq X dX12_meetsBelow_160 rfl (fun hc160 => ?_) (fun hc160 => ?_)
      · rw [if_pos hc160] at hf
        refine z_iconst X dX12_meetsBelow_168 kc_m1 ?_
        exact (z_M_meetsBelow_j169 X hd IH l0 l1 l2 l3 l4 l5 l6 l7 l8 ((-1)) l8 l2 (r136.2 (r136.2 l0 8) l1) 1 l0 r136.2 _ hf E hx0 hk)
      · rw [if_neg hc160] at hf
        refine z_iload X dX12_meetsBelow_163 4 rfl ?_
        refine z_goto X dX12_meetsBelow_165 rfl ?_
        exact (z_M_meetsBelow_j169 X hd IH l0 l1 l2 l3 l4 l5 l6 l7 l8 l4 l8 l2 (r136.2 (r136.2 l0 8) l1) 1 l0 r136.2 _ hf E hx0 hk)
    · have hf := ift hc140 hf
      refine z_goto X dX12_meetsBelow_144 rfl ?_
      exact (z_M_meetsBelow_j219 X hd IH l0 l1 l2 l3 l4 l5 l6 l7 l8 r136.2 _ hf E hx0 hk)
set_option maxHeartbeats 4000000 in
set_option maxRecDepth 100000 in
theorem z_M_meetsBelow_j46 {g : GP} {x : CX} {d : Nat} (X : zX g x RX12 cX12_meetsBelow 9 (d + 1)) (hd : 1 ≤ d) (IH : M_meets_G_IH (xl x) g d) (l0 l1 l2 l3 l6 : Int) (h : Hp) (y : (Int × Hp) ⊕ (Hp)) (hf : M_meetsBelow_j46 (M_meets_G d) d l0 l1 l2 l3 l6 h = some y) (E : Hp → Prop) (hx0 : ∀ e : Hp, E (e) → ZV g x 9 e 52 [] []) (hk : z_sum (fun q : Int × Hp => ZV g x 9 q.2 13 [(0, (2, l0)), (1, (0, l1)), (2, (0, l2)), (3, (0, l3)), (6, (0, q.1))] []) E y) : ZV g x 9 h 46 [(0, (2, l0)), (1, (0, l1)), (2, (0, l2)), (3, (0, l3)), (6, (0, l6))] [] := by
  unfold M_meetsBelow_j46 at hf
  refine z_iinc X dX12_meetsBelow_46 4 rfl (by decide) (ls' := [(6, (0, w32 (l6 + 1))), (0, (2, l0)), (1, (0, l1)), (2, (0, l2)), (3, (0, l3))]) rfl ?_
  refine z_goto X dX12_meetsBelow_49 rfl ?_
  cases hf
  exact z_weak [1, 2, 3, 4, 0] rfl hk
set_option maxHeartbeats 4000000 in
set_option maxRecDepth 100000 in
theorem z_M_meetsBelow_L13 {g : GP} {x : CX} {d : Nat} (X : zX g x RX12 cX12_meetsBelow 9 (d + 1)) (hd : 1 ≤ d) (IH : M_meets_G_IH (xl x) g d) (l0 l1 l2 l3 : Int)  (E : Hp → Prop) (hx0 : ∀ e : Hp, E (e) → ZV g x 9 e 52 [] []) (l6 : Int) (h : Hp) (y : (Int × Hp) ⊕ (Hp)) (hf : M_meetsBelow_L13 (M_meets_G d) d l0 l1 l2 l3 l6 h = some y) (hk : z_sum (fun q : Int × Hp => ZV g x 9 q.2 13 [(0, (2, l0)), (1, (0, l1)), (2, (0, l2)), (3, (0, l3)), (6, (0, q.1))] []) E y) : ZV g x 9 h 13 [(0, (2, l0)), (1, (0, l1)), (2, (0, l2)), (3, (0, l3)), (6, (0, l6))] [] := by
  unfold M_meetsBelow_L13 at hf
  refine z_iload X dX12_meetsBelow_13 4 rfl ?_
  refine z_aload_n X dX12_meetsBelow_15 0 rfl ?_
  obtain ⟨g14, hf⟩ := gif hf
  refine y_get X fl_RX12_11 dX12_meetsBelow_16 g14 ?_
  refine z_icmp_ge X dX12_meetsBelow_19 rfl (fun hc19 => ?_) (fun hc19 => ?_)
  · have hf := ift hc19 hf
    cases hf
    exact z_weak [] rfl (hx0 _ hk)
  · have hf := iff' hc19 hf
    refine z_aload_n X dX12_meetsBelow_22 0 rfl ?_
    refine z_iload X dX12_meetsBelow_23 4 rfl ?_
    refine z_aload_n X dX12_meetsBelow_25 0 rfl ?_
    refine y_get X fl_RX12_101 dX12_meetsBelow_26 g14 ?_
    refine z_iload_n X dX12_meetsBelow_29 1 rfl ?_
    obtain ⟨g15, hf⟩ := gif hf
    refine y_iald X dX12_meetsBelow_30 g15 ?_
    refine z_iconst X dX12_meetsBelow_31 kc_0 ?_
    obtain ⟨r32, hr32, hf⟩ := obE hf
    refine y_V1 X cv_RX12_296 dX12_meetsBelow_32 g14 (c_M_mayGo d (Nat.le_trans (by decide) hd) l0 l6 (h (h l0 6) l1) 0 h r32 hr32) (as := [(0, l6), (0, h (h l0 6) l1), (0, 0)]) rfl rfl (Nat.le_of_ble_eq_true rfl) z00 ?_
    refine z_if_eq X dX12_meetsBelow_35 rfl (fun hc35 => ?_) (fun hc35 => ?_)
    · have hf := ift hc35 hf
      exact (z_M_meetsBelow_j46 X hd IH l0 l1 l2 l3 l6 h _ hf E hx0 hk)
    · have hf := iff' hc35 hf
      refine z_aload_n X dX12_meetsBelow_38 0 rfl ?_
      refine z_iload X dX12_meetsBelow_39 4 rfl ?_
      refine z_iload_n X dX12_meetsBelow_41 2 rfl ?_
      refine z_iload_n X dX12_meetsBelow_42 3 rfl ?_
      obtain ⟨r43, hr43, hf⟩ := obE hf
      refine y_V0 X cv_RX12_415 dX12_meetsBelow_43 g14 (IH.2.2.1 l0 l6 l2 l3 h r43 hr43) (as := [(0, l6), (0, l2), (0, l3)]) rfl rfl (Nat.le_of_ble_eq_true rfl) z00 ?_
      exact (z_M_meetsBelow_j46 X hd IH l0 l1 l2 l3 l6 r43 _ hf E hx0 hk)
set_option maxHeartbeats 4000000 in
set_option maxRecDepth 100000 in
theorem cb_M_meetsBelow {l : Launch} {g : GP} {d : Nat} (IH : M_meets_G_IH l g d) (hd : 1 ≤ d) (l0 l1 l2 l3 l4 l5 : Int) (h : Hp) (y : Hp) (hf : M_meetsBelow_b (M_meets_G d) d l0 l1 l2 l3 l4 l5 h = some y) : zM l yX12_meetsBelow cX12_meetsBelow 9 none (d + 1) 0 0 g 157 h [(2, l0), (0, l1), (0, l2), (0, l3), (0, l4), (0, l5)] 157 y none := by
  refine z_start (by decide) (Nat.le_of_ble_eq_true rfl) (fun x X hK _ _ _ hl => ?_)
  have IH : M_meets_G_IH (xl x) g d := hl ▸ IH
  show ZV g x 9 h 0 [(0, (2, l0)), (1, (0, l1)), (2, (0, l2)), (3, (0, l3)), (4, (0, l4)), (5, (0, l5))] []
  unfold M_meetsBelow_b at hf
  refine z_aload_n X dX12_meetsBelow_0 0 rfl ?_
  obtain ⟨g1, hf⟩ := gif hf
  refine y_get X fl_RX12_98 dX12_meetsBelow_1 g1 ?_
  refine z_iload_n X dX12_meetsBelow_4 1 rfl ?_
  obtain ⟨g2, hf⟩ := gif hf
  refine y_iald X dX12_meetsBelow_5 g2 ?_
  refine z_iconst X dX12_meetsBelow_6 kc_4 ?_
  refine z_icmp_ne X dX12_meetsBelow_7 rfl (fun hc7 => ?_) (fun hc7 => ?_)
  · have hf := iff' hc7 hf
    refine z_aload_n X dX12_meetsBelow_53 0 rfl ?_
    refine y_get X fl_RX12_98 dX12_meetsBelow_54 g1 ?_
    refine z_iload_n X dX12_meetsBelow_57 1 rfl ?_
    refine y_iald X dX12_meetsBelow_58 g2 ?_
    refine z_if_eq X dX12_meetsBelow_59 rfl (fun hc59 => ?_) (fun hc59 => ?_)
    · have hf := ift hc59 hf
      refine z_aload_n X dX12_meetsBelow_63 0 rfl ?_
      refine y_get X fl_RX12_110 dX12_meetsBelow_64 g1 ?_
      refine z_iload_n X dX12_meetsBelow_67 1 rfl ?_
      obtain ⟨g3, hf⟩ := gif hf
      refine y_iald X dX12_meetsBelow_68 g3 ?_
      refine z_iconst X dX12_meetsBelow_69 kc_m1 ?_
      refine z_icmp_ne X dX12_meetsBelow_70 rfl (fun hc70 => ?_) (fun hc70 => ?_)
      · have hf := iff' hc70 hf
        refine z_aload_n X dX12_meetsBelow_91 0 rfl ?_
        refine y_get X fl_RX12_167 dX12_meetsBelow_92 g1 ?_
        refine z_aload_n X dX12_meetsBelow_95 0 rfl ?_
        refine y_get X fl_RX12_107 dX12_meetsBelow_96 g1 ?_
        refine z_iload_n X dX12_meetsBelow_99 1 rfl ?_
        obtain ⟨g4, hf⟩ := gif hf
        refine y_iald X dX12_meetsBelow_100 g4 ?_
        obtain ⟨g5, hf⟩ := gif hf
        refine y_zald X dX12_meetsBelow_101 g5 ?_
        refine z_istore X dX12_meetsBelow_102 (by decide) (ls' := [(6, (0, h (h l0 14) (h (h l0 8) l1))), (0, (2, l0)), (1, (0, l1)), (2, (0, l2)), (3, (0, l3)), (4, (0, l4)), (5, (0, l5))]) rfl ?_
        refine z_aload_n X dX12_meetsBelow_104 1 rfl ?_
        refine y_get X fl_RX12_167 dX12_meetsBelow_105 g1 ?_
        refine z_aload_n X dX12_meetsBelow_108 1 rfl ?_
        refine y_get X fl_RX12_110 dX12_meetsBelow_109 g1 ?_
        refine z_iload_n X dX12_meetsBelow_112 2 rfl ?_
        refine y_iald X dX12_meetsBelow_113 g3 ?_
        obtain ⟨g6, hf⟩ := gif hf
        refine y_zald X dX12_meetsBelow_114 g6 ?_
        refine z_istore X dX12_meetsBelow_115 (by decide) (ls' := [(7, (0, h (h l0 14) (h (h l0 9) l1))), (6, (0, h (h l0 14) (h (h l0 8) l1))), (0, (2, l0)), (1, (0, l1)), (2, (0, l2)), (3, (0, l3)), (4, (0, l4)), (5, (0, l5))]) rfl ?_
        refine z_iload_n X dX12_meetsBelow_117 4 rfl ?_
        refine z_istore X dX12_meetsBelow_118 (by decide) (ls' := [(8, (0, l2)), (7, (0, h (h l0 14) (h (h l0 9) l1))), (6, (0, h (h l0 14) (h (h l0 8) l1))), (0, (2, l0)), (1, (0, l1)), (2, (0, l2)), (3, (0, l3)), (4, (0, l4)), (5, (0, l5))]) rfl ?_
        obtain ⟨q120, hq120, hf⟩ := obE hf
        have hx120_0 : ∀ e225 : Hp, (e225 : Hp) = q120 → ZV g x 9 e225 225 [] [] := by
          intro e225 hq
          subst hq
          cases hf
          exact z_vret X hK dX12_meetsBelow_225
        exact z_weak [3, 4, 5, 6, 7, 8, 2, 1, 0] rfl (z_loop (Z := (fun q : Int × Hp => ZV g x 9 q.2 120 [(0, (2, l0)), (1, (0, l1)), (2, (0, l2)), (3, (0, l3)), (4, (0, l4)), (5, (0, l5)), (6, (0, h (h l0 14) (h (h l0 8) l1))), (7, (0, h (h l0 14) (h (h l0 9) l1))), (8, (0, q.1))] [])) (E := fun q => q = q120) (fun q y hb hk => z_M_meetsBelow_L120 X hd IH l0 l1 l2 l3 l4 l5 (h (h l0 14) (h (h l0 8) l1)) (h (h l0 14) (h (h l0 9) l1)) (fun q => q = q120) hx120_0 q.1 q.2 y hb hk) LN (l2, h) q120 hq120 rfl)
      · have hf := ift hc70 hf
        refine z_aload_n X dX12_meetsBelow_73 0 rfl ?_
        refine z_iconst X dX12_meetsBelow_74 kc_1 ?_
        refine z_aload_n X dX12_meetsBelow_75 0 rfl ?_
        refine y_get X fl_RX12_107 dX12_meetsBelow_76 g1 ?_
        refine z_iload_n X dX12_meetsBelow_79 1 rfl ?_
        obtain ⟨g13, hf⟩ := gif hf
        refine y_iald X dX12_meetsBelow_80 g13 ?_
        refine z_iload_n X dX12_meetsBelow_81 2 rfl ?_
        refine z_iload_n X dX12_meetsBelow_82 3 rfl ?_
        refine z_iload X dX12_meetsBelow_83 4 rfl ?_
        refine z_iload X dX12_meetsBelow_85 5 rfl ?_
        obtain ⟨r87, hr87, hf⟩ := obE hf
        refine y_V0 X cv_RX12_408 dX12_meetsBelow_87 g1 (IH.1 l0 1 (h (h l0 8) l1) l2 l3 l4 l5 h r87 hr87) (as := [(0, 1), (0, h (h l0 8) l1), (0, l2), (0, l3), (0, l4), (0, l5)]) rfl rfl (Nat.le_of_ble_eq_true rfl) z00 ?_
        cases hf
        exact z_vret X hK dX12_meetsBelow_90
    · have hf := iff' hc59 hf
      cases hf
      exact z_vret X hK dX12_meetsBelow_62
  · have hf := ift hc7 hf
    refine z_iconst X dX12_meetsBelow_10 kc_0 ?_
    refine z_istore X dX12_meetsBelow_11 (by decide) (ls' := [(6, (0, 0)), (0, (2, l0)), (1, (0, l1)), (2, (0, l2)), (3, (0, l3)), (4, (0, l4)), (5, (0, l5))]) rfl ?_
    obtain ⟨q13, hq13, hf⟩ := obE hf
    have hx13_0 : ∀ e52 : Hp, (e52 : Hp) = q13 → ZV g x 9 e52 52 [] [] := by
      intro e52 hq
      subst hq
      cases hf
      exact z_vret X hK dX12_meetsBelow_52
    exact z_weak [1, 2, 3, 4, 0] rfl (z_loop (Z := (fun q : Int × Hp => ZV g x 9 q.2 13 [(0, (2, l0)), (1, (0, l1)), (2, (0, l2)), (3, (0, l3)), (6, (0, q.1))] [])) (E := fun q => q = q13) (fun q y hb hk => z_M_meetsBelow_L13 X hd IH l0 l1 l2 l3 (fun q => q = q13) hx13_0 q.1 q.2 y hb hk) LN (0, h) q13 hq13 rfl)
set_option maxHeartbeats 4000000 in
set_option maxRecDepth 100000 in
theorem M_meets_G_ok (l : Launch) (g : GP) : ∀ d, M_meets_G_IH l g d
  | 0 => ⟨fun _ _ _ _ _ _ _ h y hf => (nomatch (show none = some y from hf)), fun _ _ _ _ _ _ h y hf => (nomatch (show none = some y from hf)), fun _ _ _ _ h y hf => (nomatch (show none = some y from hf)), fun _ _ _ _ _ _ h y hf => (nomatch (show none = some y from hf))⟩
  | d + 1 => by
    have IH := M_meets_G_ok l g d
    refine ⟨fun l0 l1 l2 l3 l4 l5 l6 h y hf => ?_, fun l0 l1 l2 l3 l4 l5 h y hf => ?_, fun l0 l1 l2 l3 h y hf => ?_, fun l0 l1 l2 l3 l4 l5 h y hf => ?_⟩
    · obtain ⟨hd, hf⟩ := gif (show (if 1 ≤ d then M_meets_b (M_meets_G d) d l0 l1 l2 l3 l4 l5 l6 h else none) = some y from hf)
      exact cb_M_meets IH hd l0 l1 l2 l3 l4 l5 l6 h y hf
    · obtain ⟨hd, hf⟩ := gif (show (if 1 ≤ d then M_meetsAbove_b (M_meets_G d) d l0 l1 l2 l3 l4 l5 h else none) = some y from hf)
      exact cb_M_meetsAbove IH hd l0 l1 l2 l3 l4 l5 h y hf
    · obtain ⟨hd, hf⟩ := gif (show (if 1 ≤ d then M_meetsHost_b (M_meets_G d) d l0 l1 l2 l3 h else none) = some y from hf)
      exact cb_M_meetsHost IH hd l0 l1 l2 l3 h y hf
    · obtain ⟨hd, hf⟩ := gif (show (if 1 ≤ d then M_meetsBelow_b (M_meets_G d) d l0 l1 l2 l3 l4 l5 h else none) = some y from hf)
      exact cb_M_meetsBelow IH hd l0 l1 l2 l3 l4 l5 h y hf
set_option maxHeartbeats 4000000 in
set_option maxRecDepth 100000 in
theorem c_M_meets {l : Launch} {g : GP} (d : Nat) (l0 l1 l2 l3 l4 l5 l6 : Int) (h : Hp) (y : Hp) (hf : M_meets d l0 l1 l2 l3 l4 l5 l6 h = some y) : zM l yX12_meets cX12_meets 8 none d 0 0 g 157 h [(2, l0), (0, l1), (0, l2), (0, l3), (0, l4), (0, l5), (0, l6)] 157 y none := (M_meets_G_ok l g d).1 l0 l1 l2 l3 l4 l5 l6 h y hf
set_option maxHeartbeats 4000000 in
set_option maxRecDepth 100000 in
theorem c_M_meetsAbove {l : Launch} {g : GP} (d : Nat) (l0 l1 l2 l3 l4 l5 : Int) (h : Hp) (y : Hp) (hf : M_meetsAbove d l0 l1 l2 l3 l4 l5 h = some y) : zM l yX12_meetsAbove cX12_meetsAbove 9 none d 0 0 g 157 h [(2, l0), (0, l1), (0, l2), (0, l3), (0, l4), (0, l5)] 157 y none := (M_meets_G_ok l g d).2.1 l0 l1 l2 l3 l4 l5 h y hf
set_option maxHeartbeats 4000000 in
set_option maxRecDepth 100000 in
theorem c_M_meetsHost {l : Launch} {g : GP} (d : Nat) (l0 l1 l2 l3 : Int) (h : Hp) (y : Hp) (hf : M_meetsHost d l0 l1 l2 l3 h = some y) : zM l yX12_meetsHost cX12_meetsHost 4 none d 0 0 g 157 h [(2, l0), (0, l1), (0, l2), (0, l3)] 157 y none := (M_meets_G_ok l g d).2.2.1 l0 l1 l2 l3 h y hf
set_option maxHeartbeats 4000000 in
set_option maxRecDepth 100000 in
theorem c_M_meetsBelow {l : Launch} {g : GP} (d : Nat) (l0 l1 l2 l3 l4 l5 : Int) (h : Hp) (y : Hp) (hf : M_meetsBelow d l0 l1 l2 l3 l4 l5 h = some y) : zM l yX12_meetsBelow cX12_meetsBelow 9 none d 0 0 g 157 h [(2, l0), (0, l1), (0, l2), (0, l3), (0, l4), (0, l5)] 157 y none := (M_meets_G_ok l g d).2.2.2 l0 l1 l2 l3 l4 l5 h y hf
set_option maxHeartbeats 4000000 in
set_option maxRecDepth 100000 in
theorem z_M_used_j75 {g : GP} {x : CX} {d : Nat} (X : zX g x RX12 cX12_used 5 (d + 1)) (hd : 3 ≤ d) (l0 l1 l2 l3 : Int) (h : Hp) (y : (Int × Hp) ⊕ (Hp)) (hf : M_used_j75 (d + 1) l0 l1 l2 l3 h = some y) (E : Hp → Prop) (hx0 : ∀ e : Hp, E (e) → ZV g x 5 e 81 [(0, (2, l0)), (1, (0, l1)), (2, (0, l2))] []) (hk : z_sum (fun q : Int × Hp => ZV g x 5 q.2 44 [(0, (2, l0)), (1, (0, l1)), (2, (0, l2)), (3, (0, q.1))] []) E y) : ZV g x 5 h 75 [(0, (2, l0)), (1, (0, l1)), (2, (0, l2)), (3, (0, l3))] [] := by
  unfold M_used_j75 at hf
  refine z_iinc X dX12_used_75 3 rfl (by decide) (ls' := [(3, (0, w32 (l3 + 1))), (0, (2, l0)), (1, (0, l1)), (2, (0, l2))]) rfl ?_
  refine z_goto X dX12_used_78 rfl ?_
  cases hf
  exact z_weak [1, 2, 3, 0] rfl hk
