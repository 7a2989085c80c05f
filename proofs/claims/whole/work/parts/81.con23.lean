set_option maxHeartbeats 4000000 in
set_option maxRecDepth 100000 in
theorem c_M_deepAbove {l : Launch} {g : GP} (d : Nat) (l0 l1 l2 : Int) (h : Hp) (y : Int) (hf : M_deepAbove d l0 l1 l2 h = some y) : zM l yX12_deepAbove cX12_deepAbove 5 (some .int) d 0 0 g 157 h [(2, l0), (0, l1), (0, l2)] 157 h (some (0, y)) := (M_deepAbove_G_ok l g d).1 l0 l1 l2 h y hf
set_option maxHeartbeats 4000000 in
set_option maxRecDepth 100000 in
theorem c_M_deepBelow {l : Launch} {g : GP} (d : Nat) (l0 l1 l2 : Int) (h : Hp) (y : Int) (hf : M_deepBelow d l0 l1 l2 h = some y) : zM l yX12_deepBelow cX12_deepBelow 5 (some .int) d 0 0 g 157 h [(2, l0), (0, l1), (0, l2)] 157 h (some (0, y)) := (M_deepAbove_G_ok l g d).2 l0 l1 l2 h y hf
set_option maxHeartbeats 4000000 in
set_option maxRecDepth 100000 in
theorem z_M_branchesOf_j36 {g : GP} {x : CX} {d : Nat} (X : zX g x RX12 cX12_branchesOf 4 d) (l0 l1 l3 s0 s1 : Int) (h : Hp) (y : (Int × Int) ⊕ (Int)) (hf : M_branchesOf_j36 l0 l1 l3 s0 s1 h = some y) (E : Int → Prop) (hx0 : ∀ e : Int, E (e) → ZV g x 4 h 44 [(2, (0, e))] []) (hk : z_sum (fun q : Int × Int => ZV g x 4 h 9 [(0, (2, l0)), (1, (0, l1)), (2, (0, q.1)), (3, (0, q.2))] []) E y) : ZV g x 4 h 36 [(0, (2, l0)), (1, (0, l1)), (3, (0, l3))] [(0, s0), (0, s1)] := by
  unfold M_branchesOf_j36 at hf
  refine z_iadd X dX12_branchesOf_36 ?_
  refine z_istore_n X dX12_branchesOf_37 (by decide) (ls' := [(2, (0, w32 (s1 + s0))), (0, (2, l0)), (1, (0, l1)), (3, (0, l3))]) rfl ?_
  refine z_iinc X dX12_branchesOf_38 3 rfl (by decide) (ls' := [(3, (0, w32 (l3 + 1))), (2, (0, w32 (s1 + s0))), (0, (2, l0)), (1, (0, l1))]) rfl ?_
  refine z_goto X dX12_branchesOf_41 rfl ?_
  cases hf
  exact z_weak [2, 3, 1, 0] rfl hk
set_option maxHeartbeats 4000000 in
set_option maxRecDepth 100000 in
theorem z_M_branchesOf_L9 {g : GP} {x : CX} {d : Nat} (X : zX g x RX12 cX12_branchesOf 4 d) (l0 l1 : Int) (h : Hp) (E : Int → Prop) (hx0 : ∀ e : Int, E (e) → ZV g x 4 h 44 [(2, (0, e))] []) (l2 l3 : Int) (y : (Int × Int) ⊕ (Int)) (hf : M_branchesOf_L9 l0 l1 h l2 l3 = some y) (hk : z_sum (fun q : Int × Int => ZV g x 4 h 9 [(0, (2, l0)), (1, (0, l1)), (2, (0, q.1)), (3, (0, q.2))] []) E y) : ZV g x 4 h 9 [(0, (2, l0)), (1, (0, l1)), (2, (0, l2)), (3, (0, l3))] [] := by
  unfold M_branchesOf_L9 at hf
  refine z_iload_n X dX12_branchesOf_9 3 rfl ?_
  refine z_aload_n X dX12_branchesOf_10 0 rfl ?_
  obtain ⟨g3, hf⟩ := gif hf
  refine y_get X fl_RX12_7 dX12_branchesOf_11 g3 ?_
  refine z_iload_n X dX12_branchesOf_14 1 rfl ?_
  refine z_iconst X dX12_branchesOf_15 kc_1 ?_
  refine z_iadd X dX12_branchesOf_16 ?_
  obtain ⟨g4, hf⟩ := gif hf
  refine y_iald X dX12_branchesOf_17 g4 ?_
  refine z_icmp_ge X dX12_branchesOf_18 rfl (fun hc18 => ?_) (fun hc18 => ?_)
  · have hf := ift hc18 hf
    cases hf
    exact z_weak [2] rfl (hx0 _ hk)
  · have hf := iff' hc18 hf
    refine z_iload_n X dX12_branchesOf_21 2 rfl ?_
    refine z_aload_n X dX12_branchesOf_22 0 rfl ?_
    refine y_get X fl_RX12_98 dX12_branchesOf_23 g3 ?_
    refine z_iload_n X dX12_branchesOf_26 3 rfl ?_
    obtain ⟨g5, hf⟩ := gif hf
    refine y_iald X dX12_branchesOf_27 g5 ?_
    refine z_if_ne X dX12_branchesOf_28 rfl (fun hc28 => ?_) (fun hc28 => ?_)
    · rw [if_neg hc28] at hf
      refine z_iconst X dX12_branchesOf_35 kc_0 ?_
      exact z_weak [0, 1, 3] rfl (z_M_branchesOf_j36 X l0 l1 l3 0 l2 h _ hf E hx0 hk)
    · rw [if_pos hc28] at hf
      refine z_iconst X dX12_branchesOf_31 kc_1 ?_
      refine z_goto X dX12_branchesOf_32 rfl ?_
      exact z_weak [0, 1, 3] rfl (z_M_branchesOf_j36 X l0 l1 l3 1 l2 h _ hf E hx0 hk)
set_option maxHeartbeats 4000000 in
set_option maxRecDepth 100000 in
theorem c_M_branchesOf {l : Launch} {g : GP} (d : Nat) (hd : 0 ≤ d) (l0 l1 : Int) (h : Hp) (y : Int) (hf : M_branchesOf l0 l1 h = some y) : zM l yX12_branchesOf cX12_branchesOf 4 (some .int) d 0 0 g 157 h [(2, l0), (0, l1)] 157 h (some (0, y)) := by
  refine z_start (by decide) (Nat.le_of_ble_eq_true rfl) (fun x X hK _ _ _ hl => ?_)
  show ZV g x 4 h 0 [(0, (2, l0)), (1, (0, l1))] []
  unfold M_branchesOf at hf
  refine z_iconst X dX12_branchesOf_0 kc_0 ?_
  refine z_istore_n X dX12_branchesOf_1 (by decide) (ls' := [(2, (0, 0)), (0, (2, l0)), (1, (0, l1))]) rfl ?_
  refine z_aload_n X dX12_branchesOf_2 1 rfl ?_
  obtain ⟨g1, hf⟩ := gif hf
  refine y_get X fl_RX12_7 dX12_branchesOf_3 g1 ?_
  refine z_iload_n X dX12_branchesOf_6 2 rfl ?_
  obtain ⟨g2, hf⟩ := gif hf
  refine y_iald X dX12_branchesOf_7 g2 ?_
  refine z_istore_n X dX12_branchesOf_8 (by decide) (ls' := [(3, (0, h (h l0 4) l1)), (2, (0, 0)), (0, (2, l0)), (1, (0, l1))]) rfl ?_
  obtain ⟨q9, hq9, hf⟩ := obE hf
  have hx9_0 : ∀ e44 : Int, (e44 : Int) = q9 → ZV g x 4 h 44 [(2, (0, e44))] [] := by
    intro e44 hq
    subst hq
    refine z_iload_n X dX12_branchesOf_44 0 rfl ?_
    cases hf
    exact z_iret X hK dX12_branchesOf_45
  exact z_weak [2, 3, 1, 0] rfl (z_loop (Z := (fun q : Int × Int => ZV g x 4 h 9 [(0, (2, l0)), (1, (0, l1)), (2, (0, q.1)), (3, (0, q.2))] [])) (E := fun q => q = q9) (fun q y hb hk => z_M_branchesOf_L9 X l0 l1 h (fun q => q = q9) hx9_0 q.1 q.2 y hb hk) LN (0, h (h l0 4) l1) q9 hq9 rfl)
set_option maxHeartbeats 4000000 in
set_option maxRecDepth 100000 in
theorem z_M_grown_L45 {g : GP} {x : CX} {d : Nat} (X : zX g x RX12 cX12_grown 7 (d + 1)) (hd : 3 ≤ d) (l0 : Int) (h : Hp) (E : Int → Prop) (hx0 : ∀ e : Int, E (e) → ZV g x 7 h 76 [(5, (0, e))] []) (l5 l6 : Int) (y : (Int × Int) ⊕ (Int)) (hf : M_grown_L45 (d + 1) l0 h l5 l6 = some y) (hk : z_sum (fun q : Int × Int => ZV g x 7 h 45 [(0, (2, l0)), (5, (0, q.1)), (6, (0, q.2))] []) E y) : ZV g x 7 h 45 [(0, (2, l0)), (5, (0, l5)), (6, (0, l6))] [] := by
  unfold M_grown_L45 at hf
  refine z_iload X dX12_grown_45 2 rfl ?_
  refine z_aload_n X dX12_grown_47 0 rfl ?_
  obtain ⟨g2, hf⟩ := gif hf
  refine y_get X fl_RX12_450 dX12_grown_48 g2 ?_
  refine z_icmp_ge X dX12_grown_51 rfl (fun hc51 => ?_) (fun hc51 => ?_)
  · have hf := ift hc51 hf
    cases hf
    exact z_weak [1] rfl (hx0 _ hk)
  · have hf := iff' hc51 hf
    refine z_iload X dX12_grown_54 1 rfl ?_
    refine z_aload_n X dX12_grown_56 0 rfl ?_
    refine z_aload_n X dX12_grown_57 0 rfl ?_
    refine y_get X fl_RX12_214 dX12_grown_58 g2 ?_
    refine z_iload X dX12_grown_61 2 rfl ?_
    obtain ⟨g3, hf⟩ := gif hf
    refine y_iald X dX12_grown_63 g3 ?_
    obtain ⟨r64, hr64, hf⟩ := obE hf
    refine y_V1 X cv_RX12_502 dX12_grown_64 g2 (c_M_branchesOf d (Nat.zero_le _) l0 (h (h l0 49) l6) h r64 hr64) (as := [(0, h (h l0 49) l6)]) rfl rfl (Nat.le_of_ble_eq_true rfl) z00 ?_
    refine z_iadd X dX12_grown_67 ?_
    refine z_istore X dX12_grown_68 (by decide) (ls' := [(5, (0, w32 (l5 + r64))), (0, (2, l0)), (6, (0, l6))]) rfl ?_
    refine z_iinc X dX12_grown_70 2 rfl (by decide) (ls' := [(6, (0, w32 (l6 + 1))), (5, (0, w32 (l5 + r64))), (0, (2, l0))]) rfl ?_
    refine z_goto X dX12_grown_73 rfl ?_
    cases hf
    exact z_weak [2, 1, 0] rfl hk
set_option maxHeartbeats 4000000 in
set_option maxRecDepth 100000 in
theorem c_M_grown {l : Launch} {g : GP} (d : Nat) (hd : 4 ≤ d) (l0 l1 l3 : Int) (h : Hp) (y : Int × Hp) (hf : M_grown d l0 l1 l3 h = some y) : zM l yX12_grown cX12_grown 7 (some .int) d 0 0 g 157 h [(2, l0), (1, l1), (0, l3)] 157 y.2 (some (0, y.1)) := by
  obtain ⟨d, rfl⟩ : ∃ k, d = k + 1 := ⟨d - 1, by omega⟩
  replace hd : 3 ≤ d := Nat.le_of_succ_le_succ hd
  refine z_start (by decide) (Nat.le_of_ble_eq_true rfl) (fun x X hK _ _ _ hl => ?_)
  show ZV g x 7 h 0 [(0, (2, l0)), (1, (1, l1)), (3, (0, l3))] []
  unfold M_grown at hf
  refine z_aload_n X dX12_grown_0 0 rfl ?_
  refine z_lload_n X dX12_grown_1 1 rfl ?_
  obtain ⟨g1, hf⟩ := gif hf
  obtain ⟨r2, hr2, hf⟩ := obE hf
  refine y_V1 X cv_RX12_474 dX12_grown_2 g1 (c_M_laysWay d (Nat.le_trans (by decide) hd) l0 l1 h r2 hr2) (as := [(1, l1)]) rfl rfl (Nat.le_of_ble_eq_true rfl) z00 ?_
  refine z_istore X dX12_grown_5 (by decide) (ls' := [(4, (0, r2.1)), (0, (2, l0)), (1, (1, l1)), (3, (0, l3))]) rfl ?_
  refine z_iload X dX12_grown_7 0 rfl ?_
  refine z_if_eq X dX12_grown_9 rfl (fun hc9 => ?_) (fun hc9 => ?_)
  · have hf := ift hc9 hf
    refine z_iload_n X dX12_grown_15 3 rfl ?_
    refine z_i2l X dX12_grown_16 ?_
    refine z_lconst0 X dX12_grown_17 ?_
    refine z_lconst1 X dX12_grown_18 ?_
    obtain ⟨r19, hr19, hf⟩ := obE hf
    refine y_S1 X cs_RX12_14 dX12_grown_19 (c_M_in d (Nat.zero_le _) l3 0 1 r2.2 r19 hr19) (as := [(1, l3), (1, 0), (1, 1)]) rfl rfl (Nat.le_of_ble_eq_true rfl) z00 ?_
    refine z_if_ne X dX12_grown_22 rfl (fun hc22 => ?_) (fun hc22 => ?_)
    · have hf := iff' hc22 hf
      refine z_iload_n X dX12_grown_28 3 rfl ?_
      refine z_if_ne X dX12_grown_29 rfl (fun hc29 => ?_) (fun hc29 => ?_)
      · have hf := iff' hc29 hf
        refine z_iconst X dX12_grown_39 kc_0 ?_
        refine z_istore X dX12_grown_40 (by decide) (ls' := [(5, (0, 0)), (4, (0, r2.1)), (0, (2, l0)), (1, (1, l1)), (3, (0, l3))]) rfl ?_
        refine z_iconst X dX12_grown_42 kc_0 ?_
        refine z_istore X dX12_grown_43 (by decide) (ls' := [(6, (0, 0)), (5, (0, 0)), (4, (0, r2.1)), (0, (2, l0)), (1, (1, l1)), (3, (0, l3))]) rfl ?_
        obtain ⟨q45, hq45, hf⟩ := obE hf
        have hx45_0 : ∀ e76 : Int, (e76 : Int) = q45 → ZV g x 7 r2.2 76 [(5, (0, e76))] [] := by
          intro e76 hq
          subst hq
          refine z_iload X dX12_grown_76 0 rfl ?_
          cases hf
          exact z_iret X hK dX12_grown_78
        exact z_weak [3, 1, 0] rfl (z_loop (Z := (fun q : Int × Int => ZV g x 7 r2.2 45 [(0, (2, l0)), (5, (0, q.1)), (6, (0, q.2))] [])) (E := fun q => q = q45) (fun q y hb hk => z_M_grown_L45 X hd l0 r2.2 (fun q => q = q45) hx45_0 q.1 q.2 y hb hk) LN (0, 0) q45 hq45 rfl)
      · have hf := ift hc29 hf
        refine z_aload_n X dX12_grown_32 1 rfl ?_
        refine z_iconst X dX12_grown_33 kc_0 ?_
        refine z_iconst X dX12_grown_34 kc_0 ?_
        obtain ⟨r35, hr35, hf⟩ := obE hf
        refine y_V1 X cv_RX12_496 dX12_grown_35 g1 (c_M_deepAbove d l0 0 0 r2.2 r35 hr35) (as := [(0, 0), (0, 0)]) rfl rfl (Nat.le_of_ble_eq_true rfl) z00 ?_
        cases hf
        exact z_iret X hK dX12_grown_38
    · have hf := ift hc22 hf
      refine z_bipush X dX12_grown_25 kb_m2 kc_m2 ?_
      cases hf
      exact z_iret X hK dX12_grown_27
  · have hf := iff' hc9 hf
    refine z_iload X dX12_grown_12 0 rfl ?_
    cases hf
    exact z_iret X hK dX12_grown_14
set_option maxHeartbeats 4000000 in
set_option maxRecDepth 100000 in
theorem c_M_puts {l : Launch} {g : GP} (d : Nat) (hd : 0 ≤ d) (l0 l1 : Int) (h : Hp) (y : Hp) (hf : M_puts l0 l1 h = some y) : zM l yX12_puts cX12_puts 2 none d 0 0 g 157 h [(2, l0), (0, l1)] 157 y none := by
  refine z_start (by decide) (Nat.le_of_ble_eq_true rfl) (fun x X hK _ _ _ hl => ?_)
  show ZV g x 2 h 0 [(0, (2, l0)), (1, (0, l1))] []
  unfold M_puts at hf
  refine z_aload_n X dX12_puts_0 0 rfl ?_
  obtain ⟨g1, hf⟩ := gif hf
  refine y_get X fl_RX12_235 dX12_puts_1 g1 ?_
  refine z_aload_n X dX12_puts_4 0 rfl ?_
  refine y_get X fl_RX12_361 dX12_puts_5 g1 ?_
  refine z_iload_n X dX12_puts_8 1 rfl ?_
  refine z_i2b X dX12_puts_9 ?_
  obtain ⟨g2, hf⟩ := gif hf
  refine y_bast X dX12_puts_10 g2 ?_
  let h_1 : Hp := hput h (h l0 56) (h l0 57) (w8 (w8 l1))
  refine z_aload_n X dX12_puts_11 0 rfl ?_
  refine z_dup X ne2 dX12_puts_12 ?_
  refine y_get X fl_RX12_361 dX12_puts_13 g1 ?_
  refine z_iconst X dX12_puts_16 kc_1 ?_
  refine z_iadd X dX12_puts_17 ?_
  refine y_put X fl_RX12_361 dX12_puts_18 g1 rfl (by decide) ?_
  let h_2 : Hp := hput h_1 l0 57 (w32 ((h_1 l0 57) + 1))
  cases hf
  exact z_vret X hK dX12_puts_21
set_option maxHeartbeats 4000000 in
set_option maxRecDepth 100000 in
theorem c_M_signs {l : Launch} {g : GP} (d : Nat) (hd : 1 ≤ d) (l0 l1 : Int) (h : Hp) (y : Hp) (hf : M_signs l0 l1 h = some y) : zM l yX12_signs cX12_signs 2 none d 0 0 g 157 h [(2, l0), (0, l1)] 157 y none := by
  obtain ⟨d, rfl⟩ : ∃ k, d = k + 1 := ⟨d - 1, by omega⟩
  replace hd : 0 ≤ d := Nat.le_of_succ_le_succ hd
  refine z_start (by decide) (Nat.le_of_ble_eq_true rfl) (fun x X hK _ _ _ hl => ?_)
  show ZV g x 2 h 0 [(0, (2, l0)), (1, (0, l1))] []
  unfold M_signs at hf
  refine z_aload_n X dX12_signs_0 0 rfl ?_
  obtain ⟨g1, hf⟩ := gif hf
  refine y_get X fl_RX12_505 dX12_signs_1 g1 ?_
  refine z_if_ne X dX12_signs_4 rfl (fun hc4 => ?_) (fun hc4 => ?_)
  · have hf := iff' hc4 hf
    cases hf
    exact z_vret X hK dX12_signs_12
  · have hf := ift hc4 hf
    refine z_aload_n X dX12_signs_7 0 rfl ?_
    refine z_iload_n X dX12_signs_8 1 rfl ?_
    obtain ⟨r9, hr9, hf⟩ := obE hf
    refine y_V0 X cv_RX12_509 dX12_signs_9 g1 (c_M_puts d (Nat.zero_le _) l0 l1 h r9 hr9) (as := [(0, l1)]) rfl rfl (Nat.le_of_ble_eq_true rfl) z00 ?_
    cases hf
    exact z_vret X hK dX12_signs_12
def M_tellsAbove_G_IH (l : Launch) (g : GP) (d : Nat) : Prop := (∀ (l0 l1 l2 : Int) (h : Hp) (y : Hp), M_tellsAbove_G d 0 [l0, l1, l2] h = some y → zM l yX12_tellsAbove cX12_tellsAbove 5 none d 0 0 g 157 h [(2, l0), (0, l1), (0, l2)] 157 y none) ∧ (∀ (l0 l1 l2 : Int) (h : Hp) (y : Hp), M_tellsAbove_G d 1 [l0, l1, l2] h = some y → zM l yX12_tellsBelow cX12_tellsBelow 5 none d 0 0 g 157 h [(2, l0), (0, l1), (0, l2)] 157 y none)
set_option maxHeartbeats 4000000 in
set_option maxRecDepth 100000 in
theorem cb_M_tellsAbove {l : Launch} {g : GP} {d : Nat} (IH : M_tellsAbove_G_IH l g d) (hd : 1 ≤ d) (l0 l1 l2 : Int) (h : Hp) (y : Hp) (hf : M_tellsAbove_b (M_tellsAbove_G d) d l0 l1 l2 h = some y) : zM l yX12_tellsAbove cX12_tellsAbove 5 none (d + 1) 0 0 g 157 h [(2, l0), (0, l1), (0, l2)] 157 y none := by
  refine z_start (by decide) (Nat.le_of_ble_eq_true rfl) (fun x X hK _ _ _ hl => ?_)
  have IH : M_tellsAbove_G_IH (xl x) g d := hl ▸ IH
  show ZV g x 5 h 0 [(0, (2, l0)), (1, (0, l1)), (2, (0, l2))] []
  unfold M_tellsAbove_b at hf
  refine z_aload_n X dX12_tellsAbove_0 0 rfl ?_
  refine z_iload_n X dX12_tellsAbove_1 1 rfl ?_
  refine z_iload_n X dX12_tellsAbove_2 2 rfl ?_
  obtain ⟨g1, hf⟩ := gif hf
  obtain ⟨r3, hr3, hf⟩ := obE hf
  refine y_V1 X cv_RX12_493 dX12_tellsAbove_3 g1 (c_M_put d (Nat.zero_le _) l0 l1 l2 h r3 hr3) (as := [(0, l1), (0, l2)]) rfl rfl (Nat.le_of_ble_eq_true rfl) z00 ?_
  refine z_istore_n X dX12_tellsAbove_6 (by decide) (ls' := [(3, (0, r3)), (0, (2, l0)), (1, (0, l1)), (2, (0, l2))]) rfl ?_
  refine z_aload_n X dX12_tellsAbove_7 1 rfl ?_
  refine y_get X fl_RX12_7 dX12_tellsAbove_8 g1 ?_
  refine z_aload_n X dX12_tellsAbove_11 1 rfl ?_
  refine y_get X fl_RX12_214 dX12_tellsAbove_12 g1 ?_
  refine z_iload_n X dX12_tellsAbove_15 2 rfl ?_
  obtain ⟨g2, hf⟩ := gif hf
  refine y_iald X dX12_tellsAbove_16 g2 ?_
  obtain ⟨g3, hf⟩ := gif hf
  refine y_iald X dX12_tellsAbove_17 g3 ?_
  refine z_iload_n X dX12_tellsAbove_18 3 rfl ?_
  refine z_iadd X dX12_tellsAbove_19 ?_
  refine z_istore X dX12_tellsAbove_20 (by decide) (ls' := [(4, (0, w32 ((h (h l0 4) (h (h l0 49) l1)) + l2))), (3, (0, r3)), (0, (2, l0)), (1, (0, l1)), (2, (0, l2))]) rfl ?_
  refine z_aload_n X dX12_tellsAbove_22 2 rfl ?_
  refine y_get X fl_RX12_98 dX12_tellsAbove_23 g1 ?_
  refine z_iload X dX12_tellsAbove_26 0 rfl ?_
  obtain ⟨g4, hf⟩ := gif hf
  refine y_iald X dX12_tellsAbove_28 g4 ?_
  by_cases hc29_0 : h (h l0 5) (w32 ((h (h l0 4) (h (h l0 49) l1)) + l2)) = 0
  · have hf := ift hc29_0 hf
    refine z_tsIn X dX12_tellsAbove_29 (by omega) (by omega) (by rw [hc29_0]; rfl) rfl ?_
    refine z_iload_n X dX12_tellsAbove_60 1 rfl ?_
    refine z_iconst X dX12_tellsAbove_61 kc_m1 ?_
    refine z_icmp_eq X dX12_tellsAbove_62 rfl (fun hc62 => ?_) (fun hc62 => ?_)
    · have hf := ift hc62 hf
      refine z_aload_n X dX12_tellsAbove_74 2 rfl ?_
      refine z_iload_n X dX12_tellsAbove_75 3 rfl ?_
      refine z_iload_n X dX12_tellsAbove_76 4 rfl ?_
      obtain ⟨r77, hr77, hf⟩ := obE hf
      refine y_V0 X cv_RX12_515 dX12_tellsAbove_77 g1 (IH.2 l0 l1 l2 h r77 hr77) (as := [(0, l1), (0, l2)]) rfl rfl (Nat.le_of_ble_eq_true rfl) z00 ?_
      refine z_goto X dX12_tellsAbove_80 rfl ?_
      cases hf
      exact z_vret X hK dX12_tellsAbove_134
    · have hf := iff' hc62 hf
      refine z_aload_n X dX12_tellsAbove_65 2 rfl ?_
      refine z_iload_n X dX12_tellsAbove_66 1 rfl ?_
      refine z_iconst X dX12_tellsAbove_67 kc_0 ?_
      obtain ⟨r68, hr68, hf⟩ := obE hf
      refine y_V0 X cv_RX12_512 dX12_tellsAbove_68 g1 (IH.1 l0 r3 0 h r68 hr68) (as := [(0, r3), (0, 0)]) rfl rfl (Nat.le_of_ble_eq_true rfl) z00 ?_
      refine z_goto X dX12_tellsAbove_71 rfl ?_
      cases hf
      exact z_vret X hK dX12_tellsAbove_134
  · have hf := iff' hc29_0 hf
    by_cases hc29_1 : h (h l0 5) (w32 ((h (h l0 4) (h (h l0 49) l1)) + l2)) = 1
    · have hf := ift hc29_1 hf
      refine z_tsIn X dX12_tellsAbove_29 (by omega) (by omega) (by rw [hc29_1]; rfl) rfl ?_
      refine z_aload_n X dX12_tellsAbove_83 2 rfl ?_
      refine z_bipush X dX12_tellsAbove_84 kb_97 kc_97 ?_
      refine z_aload_n X dX12_tellsAbove_86 2 rfl ?_
      refine y_get X fl_RX12_101 dX12_tellsAbove_87 g1 ?_
      refine z_iload X dX12_tellsAbove_90 0 rfl ?_
      obtain ⟨g5, hf⟩ := gif hf
      refine y_iald X dX12_tellsAbove_92 g5 ?_
      refine z_iadd X dX12_tellsAbove_93 ?_
      obtain ⟨r94, hr94, hf⟩ := obE hf
      refine y_V0 X cv_RX12_509 dX12_tellsAbove_94 g1 (c_M_puts d (Nat.zero_le _) l0 (w32 (97 + (h (h l0 6) (w32 ((h (h l0 4) (h (h l0 49) l1)) + l2))))) h r94 hr94) (as := [(0, w32 (97 + (h (h l0 6) (w32 ((h (h l0 4) (h (h l0 49) l1)) + l2)))))]) rfl rfl (Nat.le_of_ble_eq_true rfl) z00 ?_
      refine z_goto X dX12_tellsAbove_97 rfl ?_
      cases hf
      exact z_vret X hK dX12_tellsAbove_134
    · have hf := iff' hc29_1 hf
      by_cases hc29_2 : h (h l0 5) (w32 ((h (h l0 4) (h (h l0 49) l1)) + l2)) = 2
      · have hf := ift hc29_2 hf
        refine z_tsIn X dX12_tellsAbove_29 (by omega) (by omega) (by rw [hc29_2]; rfl) rfl ?_
        refine z_aload_n X dX12_tellsAbove_100 2 rfl ?_
        refine z_bipush X dX12_tellsAbove_101 kb_46 kc_46 ?_
        obtain ⟨r103, hr103, hf⟩ := obE hf
        refine y_V0 X cv_RX12_518 dX12_tellsAbove_103 g1 (c_M_signs d (Nat.le_trans (by decide) hd) l0 46 h r103 hr103) (as := [(0, 46)]) rfl rfl (Nat.le_of_ble_eq_true rfl) z00 ?_
        refine z_goto X dX12_tellsAbove_106 rfl ?_
        cases hf
        exact z_vret X hK dX12_tellsAbove_134
      · have hf := iff' hc29_2 hf
        by_cases hc29_3 : h (h l0 5) (w32 ((h (h l0 4) (h (h l0 49) l1)) + l2)) = 3
        · have hf := ift hc29_3 hf
          refine z_tsIn X dX12_tellsAbove_29 (by omega) (by omega) (by rw [hc29_3]; rfl) rfl ?_
          refine z_aload_n X dX12_tellsAbove_109 2 rfl ?_
          refine z_aload_n X dX12_tellsAbove_110 2 rfl ?_
          refine y_get X fl_RX12_217 dX12_tellsAbove_111 g1 ?_
          refine z_iload_n X dX12_tellsAbove_114 3 rfl ?_
          obtain ⟨g6, hf⟩ := gif hf
          refine y_iald X dX12_tellsAbove_115 g6 ?_
          refine z_aload_n X dX12_tellsAbove_116 2 rfl ?_
          refine y_get X fl_RX12_220 dX12_tellsAbove_117 g1 ?_
          refine z_iload_n X dX12_tellsAbove_120 3 rfl ?_
          obtain ⟨g7, hf⟩ := gif hf
          refine y_iald X dX12_tellsAbove_121 g7 ?_
          obtain ⟨r122, hr122, hf⟩ := obE hf
          refine y_V0 X cv_RX12_515 dX12_tellsAbove_122 g1 (IH.2 l0 (h (h l0 50) l1) (h (h l0 51) l1) h r122 hr122) (as := [(0, h (h l0 50) l1), (0, h (h l0 51) l1)]) rfl rfl (Nat.le_of_ble_eq_true rfl) z00 ?_
          refine z_goto X dX12_tellsAbove_125 rfl ?_
          cases hf
          exact z_vret X hK dX12_tellsAbove_134
        · have hf := iff' hc29_3 hf
          refine z_tsOut X dX12_tellsAbove_29 (by omega) rfl ?_
          refine z_aload_n X dX12_tellsAbove_128 2 rfl ?_
          refine z_iload_n X dX12_tellsAbove_129 1 rfl ?_
          refine z_iconst X dX12_tellsAbove_130 kc_0 ?_
          obtain ⟨r131, hr131, hf⟩ := obE hf
          refine y_V0 X cv_RX12_512 dX12_tellsAbove_131 g1 (IH.1 l0 r3 0 h r131 hr131) (as := [(0, r3), (0, 0)]) rfl rfl (Nat.le_of_ble_eq_true rfl) z00 ?_
          cases hf
          exact z_vret X hK dX12_tellsAbove_134
set_option maxHeartbeats 4000000 in
set_option maxRecDepth 100000 in
theorem z_M_tellsBelow_j94 {g : GP} {x : CX} {d : Nat} (X : zX g x RX12 cX12_tellsBelow 5 (d + 1)) (hd : 1 ≤ d) (IH : M_tellsAbove_G_IH (xl x) g d) (l0 : Int) (h : Hp) (y : Hp) (hf : M_tellsBelow_j94 (M_tellsAbove_G d) d l0 h = some y) (hK : zE g x none 0 0 157 y none) : ZV g x 5 h 94 [(0, (2, l0))] [] := by
  unfold M_tellsBelow_j94 at hf
  refine z_aload_n X dX12_tellsBelow_94 0 rfl ?_
  refine z_bipush X dX12_tellsBelow_95 kb_41 kc_41 ?_
  obtain ⟨g7, hf⟩ := gif hf
  obtain ⟨r97, hr97, hf⟩ := obE hf
  refine y_V0 X cv_RX12_518 dX12_tellsBelow_97 g7 (c_M_signs d (Nat.le_trans (by decide) hd) l0 41 h r97 hr97) (as := [(0, 41)]) rfl rfl (Nat.le_of_ble_eq_true rfl) z00 ?_
  cases hf
  exact z_vret X hK dX12_tellsBelow_100
set_option maxHeartbeats 4000000 in
set_option maxRecDepth 100000 in
theorem cb_M_tellsBelow {l : Launch} {g : GP} {d : Nat} (IH : M_tellsAbove_G_IH l g d) (hd : 1 ≤ d) (l0 l1 l2 : Int) (h : Hp) (y : Hp) (hf : M_tellsBelow_b (M_tellsAbove_G d) d l0 l1 l2 h = some y) : zM l yX12_tellsBelow cX12_tellsBelow 5 none (d + 1) 0 0 g 157 h [(2, l0), (0, l1), (0, l2)] 157 y none := by
  refine z_start (by decide) (Nat.le_of_ble_eq_true rfl) (fun x X hK _ _ _ hl => ?_)
  have IH : M_tellsAbove_G_IH (xl x) g d := hl ▸ IH
  show ZV g x 5 h 0 [(0, (2, l0)), (1, (0, l1)), (2, (0, l2))] []
  unfold M_tellsBelow_b at hf
  refine z_aload_n X dX12_tellsBelow_0 0 rfl ?_
  obtain ⟨g1, hf⟩ := gif hf
  refine y_get X fl_RX12_214 dX12_tellsBelow_1 g1 ?_
  refine z_iload_n X dX12_tellsBelow_4 1 rfl ?_
  obtain ⟨g2, hf⟩ := gif hf
  refine y_iald X dX12_tellsBelow_5 g2 ?_
  refine z_istore_n X dX12_tellsBelow_6 (by decide) (ls' := [(3, (0, h (h l0 49) l1)), (0, (2, l0)), (1, (0, l1)), (2, (0, l2))]) rfl ?_
  refine z_aload_n X dX12_tellsBelow_7 1 rfl ?_
  refine y_get X fl_RX12_7 dX12_tellsBelow_8 g1 ?_
  refine z_iload_n X dX12_tellsBelow_11 0 rfl ?_
  obtain ⟨g3, hf⟩ := gif hf
  refine y_iald X dX12_tellsBelow_12 g3 ?_
  refine z_iload_n X dX12_tellsBelow_13 3 rfl ?_
  refine z_iadd X dX12_tellsBelow_14 ?_
  refine z_istore X dX12_tellsBelow_15 (by decide) (ls' := [(4, (0, w32 ((h (h l0 4) (h (h l0 49) l1)) + l2))), (3, (0, h (h l0 49) l1)), (0, (2, l0)), (1, (0, l1)), (2, (0, l2))]) rfl ?_
  refine z_aload_n X dX12_tellsBelow_17 2 rfl ?_
  refine z_bipush X dX12_tellsBelow_18 kb_40 kc_40 ?_
  obtain ⟨r20, hr20, hf⟩ := obE hf
  refine y_V0 X cv_RX12_518 dX12_tellsBelow_20 g1 (c_M_signs d (Nat.le_trans (by decide) hd) l0 40 h r20 hr20) (as := [(0, 40)]) rfl rfl (Nat.le_of_ble_eq_true rfl) z00 ?_
  refine z_aload_n X dX12_tellsBelow_23 2 rfl ?_
  refine z_bipush X dX12_tellsBelow_24 kb_65 kc_65 ?_
  refine z_aload_n X dX12_tellsBelow_26 2 rfl ?_
  refine y_get X fl_RX12_101 dX12_tellsBelow_27 g1 ?_
  refine z_iload X dX12_tellsBelow_30 0 rfl ?_
  obtain ⟨g4, hf⟩ := gif hf
  refine y_iald X dX12_tellsBelow_32 g4 ?_
  refine z_iadd X dX12_tellsBelow_33 ?_
  obtain ⟨r34, hr34, hf⟩ := obE hf
  refine y_V0 X cv_RX12_518 dX12_tellsBelow_34 g1 (c_M_signs d (Nat.le_trans (by decide) hd) l0 (w32 (65 + (r20 (r20 l0 6) (w32 ((h (h l0 4) (h (h l0 49) l1)) + l2))))) r20 r34 hr34) (as := [(0, w32 (65 + (r20 (r20 l0 6) (w32 ((h (h l0 4) (h (h l0 49) l1)) + l2)))))]) rfl rfl (Nat.le_of_ble_eq_true rfl) z00 ?_
  refine z_aload_n X dX12_tellsBelow_37 2 rfl ?_
  refine z_bipush X dX12_tellsBelow_38 kb_32 kc_32 ?_
  obtain ⟨r40, hr40, hf⟩ := obE hf
  refine y_V0 X cv_RX12_518 dX12_tellsBelow_40 g1 (c_M_signs d (Nat.le_trans (by decide) hd) l0 32 r34 r40 hr40) (as := [(0, 32)]) rfl rfl (Nat.le_of_ble_eq_true rfl) z00 ?_
  refine z_aload_n X dX12_tellsBelow_43 2 rfl ?_
  refine z_iload_n X dX12_tellsBelow_44 3 rfl ?_
  refine z_aload_n X dX12_tellsBelow_45 2 rfl ?_
  refine z_iload_n X dX12_tellsBelow_46 1 rfl ?_
  refine z_aload_n X dX12_tellsBelow_47 2 rfl ?_
  refine y_get X fl_RX12_107 dX12_tellsBelow_48 g1 ?_
  refine z_iload X dX12_tellsBelow_51 0 rfl ?_
  obtain ⟨g5, hf⟩ := gif hf
  refine y_iald X dX12_tellsBelow_53 g5 ?_
  obtain ⟨r54, hr54, hf⟩ := obE hf
  refine y_V1 X cv_RX12_368 dX12_tellsBelow_54 g1 (c_M_own d (Nat.zero_le _) l0 (h (h l0 49) l1) (r40 (r40 l0 8) (w32 ((h (h l0 4) (h (h l0 49) l1)) + l2))) r40 r54 hr54) (as := [(0, h (h l0 49) l1), (0, r40 (r40 l0 8) (w32 ((h (h l0 4) (h (h l0 49) l1)) + l2)))]) rfl rfl (Nat.le_of_ble_eq_true rfl) z00 ?_
  obtain ⟨r57, hr57, hf⟩ := obE hf
  refine y_V0 X cv_RX12_512 dX12_tellsBelow_57 g1 (IH.1 l0 l1 r54 r40 r57 hr57) (as := [(0, l1), (0, r54)]) rfl rfl (Nat.le_of_ble_eq_true rfl) z00 ?_
  refine z_aload_n X dX12_tellsBelow_60 2 rfl ?_
  refine y_get X fl_RX12_110 dX12_tellsBelow_61 g1 ?_
  refine z_iload X dX12_tellsBelow_64 0 rfl ?_
  obtain ⟨g6, hf⟩ := gif hf
  refine y_iald X dX12_tellsBelow_66 g6 ?_
  refine z_iconst X dX12_tellsBelow_67 kc_m1 ?_
  refine z_icmp_eq X dX12_tellsBelow_68 rfl (fun hc68 => ?_) (fun hc68 => ?_)
  · have hf := ift hc68 hf
    exact z_weak [2] rfl (z_M_tellsBelow_j94 X hd IH l0 r57 _ hf hK)
  · have hf := iff' hc68 hf
    refine z_aload_n X dX12_tellsBelow_71 2 rfl ?_
    refine z_bipush X dX12_tellsBelow_72 kb_32 kc_32 ?_
    obtain ⟨r74, hr74, hf⟩ := obE hf
    refine y_V0 X cv_RX12_518 dX12_tellsBelow_74 g1 (c_M_signs d (Nat.le_trans (by decide) hd) l0 32 r57 r74 hr74) (as := [(0, 32)]) rfl rfl (Nat.le_of_ble_eq_true rfl) z00 ?_
    refine z_aload_n X dX12_tellsBelow_77 2 rfl ?_
    refine z_iload_n X dX12_tellsBelow_78 3 rfl ?_
    refine z_aload_n X dX12_tellsBelow_79 2 rfl ?_
    refine z_iload_n X dX12_tellsBelow_80 1 rfl ?_
    refine z_aload_n X dX12_tellsBelow_81 2 rfl ?_
    refine y_get X fl_RX12_110 dX12_tellsBelow_82 g1 ?_
    refine z_iload X dX12_tellsBelow_85 0 rfl ?_
    obtain ⟨g8, hf⟩ := gif hf
    refine y_iald X dX12_tellsBelow_87 g8 ?_
    obtain ⟨r88, hr88, hf⟩ := obE hf
    refine y_V1 X cv_RX12_368 dX12_tellsBelow_88 g1 (c_M_own d (Nat.zero_le _) l0 (h (h l0 49) l1) (r74 (r74 l0 9) (w32 ((h (h l0 4) (h (h l0 49) l1)) + l2))) r74 r88 hr88) (as := [(0, h (h l0 49) l1), (0, r74 (r74 l0 9) (w32 ((h (h l0 4) (h (h l0 49) l1)) + l2)))]) rfl rfl (Nat.le_of_ble_eq_true rfl) z00 ?_
    obtain ⟨r91, hr91, hf⟩ := obE hf
    refine y_V0 X cv_RX12_512 dX12_tellsBelow_91 g1 (IH.1 l0 l1 r88 r74 r91 hr91) (as := [(0, l1), (0, r88)]) rfl rfl (Nat.le_of_ble_eq_true rfl) z00 ?_
    exact z_weak [2] rfl (z_M_tellsBelow_j94 X hd IH l0 r91 _ hf hK)
set_option maxHeartbeats 4000000 in
set_option maxRecDepth 100000 in
theorem M_tellsAbove_G_ok (l : Launch) (g : GP) : ∀ d, M_tellsAbove_G_IH l g d
  | 0 => ⟨fun _ _ _ h y hf => (nomatch (show none = some y from hf)), fun _ _ _ h y hf => (nomatch (show none = some y from hf))⟩
  | d + 1 => by
    have IH := M_tellsAbove_G_ok l g d
    refine ⟨fun l0 l1 l2 h y hf => ?_, fun l0 l1 l2 h y hf => ?_⟩
    · obtain ⟨hd, hf⟩ := gif (show (if 1 ≤ d then M_tellsAbove_b (M_tellsAbove_G d) d l0 l1 l2 h else none) = some y from hf)
      exact cb_M_tellsAbove IH hd l0 l1 l2 h y hf
    · obtain ⟨hd, hf⟩ := gif (show (if 1 ≤ d then M_tellsBelow_b (M_tellsAbove_G d) d l0 l1 l2 h else none) = some y from hf)
      exact cb_M_tellsBelow IH hd l0 l1 l2 h y hf
set_option maxHeartbeats 4000000 in
set_option maxRecDepth 100000 in
theorem c_M_tellsAbove {l : Launch} {g : GP} (d : Nat) (l0 l1 l2 : Int) (h : Hp) (y : Hp) (hf : M_tellsAbove d l0 l1 l2 h = some y) : zM l yX12_tellsAbove cX12_tellsAbove 5 none d 0 0 g 157 h [(2, l0), (0, l1), (0, l2)] 157 y none := (M_tellsAbove_G_ok l g d).1 l0 l1 l2 h y hf
set_option maxHeartbeats 4000000 in
set_option maxRecDepth 100000 in
theorem c_M_tellsBelow {l : Launch} {g : GP} (d : Nat) (l0 l1 l2 : Int) (h : Hp) (y : Hp) (hf : M_tellsBelow d l0 l1 l2 h = some y) : zM l yX12_tellsBelow cX12_tellsBelow 5 none d 0 0 g 157 h [(2, l0), (0, l1), (0, l2)] 157 y none := (M_tellsAbove_G_ok l g d).2 l0 l1 l2 h y hf
set_option maxHeartbeats 4000000 in
set_option maxRecDepth 100000 in
theorem z_M_tellsNumber_j37 {g : GP} {x : CX} {d : Nat} (X : zX g x RX12 cX12_tellsNumber 2 (d + 1)) (hd : 0 ≤ d) (l0 l1 : Int) (h : Hp) (y : Hp) (hf : M_tellsNumber_j37 l0 l1 h = some y) (hK : zE g x none 0 0 157 y none) : ZV g x 2 h 37 [(0, (2, l0)), (1, (0, l1))] [] := by
  unfold M_tellsNumber_j37 at hf
  refine z_aload_n X dX12_tellsNumber_37 0 rfl ?_
  refine z_bipush X dX12_tellsNumber_38 kb_48 kc_48 ?_
  refine z_iload_n X dX12_tellsNumber_40 1 rfl ?_
  refine z_bipush X dX12_tellsNumber_41 kb_10 kc_10 ?_
  refine z_irem X dX12_tellsNumber_43 (by decide) ?_
  refine z_iadd X dX12_tellsNumber_44 ?_
  obtain ⟨g1, hf⟩ := gif hf
  obtain ⟨r45, hr45, hf⟩ := obE hf
  refine y_V0 X cv_RX12_509 dX12_tellsNumber_45 g1 (c_M_puts d (Nat.zero_le _) l0 (w32 (48 + (w32 (Int.tmod l1 10)))) h r45 hr45) (as := [(0, w32 (48 + (w32 (Int.tmod l1 10))))]) rfl rfl (Nat.le_of_ble_eq_true rfl) z00 ?_
  cases hf
  exact z_vret X hK dX12_tellsNumber_48
set_option maxHeartbeats 4000000 in
set_option maxRecDepth 100000 in
theorem z_M_tellsNumber_j17 {g : GP} {x : CX} {d : Nat} (X : zX g x RX12 cX12_tellsNumber 2 (d + 1)) (hd : 0 ≤ d) (l0 l1 : Int) (h : Hp) (y : Hp) (hf : M_tellsNumber_j17 l0 l1 h = some y) (hK : zE g x none 0 0 157 y none) : ZV g x 2 h 17 [(0, (2, l0)), (1, (0, l1))] [] := by
  unfold M_tellsNumber_j17 at hf
  refine z_iload_n X dX12_tellsNumber_17 1 rfl ?_
  refine z_bipush X dX12_tellsNumber_18 kb_9 kc_9 ?_
  refine z_icmp_le X dX12_tellsNumber_20 rfl (fun hc20 => ?_) (fun hc20 => ?_)
  · have hf := ift hc20 hf
    exact (z_M_tellsNumber_j37 X hd l0 l1 h _ hf hK)
  · have hf := iff' hc20 hf
    refine z_aload_n X dX12_tellsNumber_23 0 rfl ?_
    refine z_bipush X dX12_tellsNumber_24 kb_48 kc_48 ?_
    refine z_iload_n X dX12_tellsNumber_26 1 rfl ?_
    refine z_bipush X dX12_tellsNumber_27 kb_10 kc_10 ?_
    refine z_idiv X dX12_tellsNumber_29 (by decide) ?_
    refine z_bipush X dX12_tellsNumber_30 kb_10 kc_10 ?_
    refine z_irem X dX12_tellsNumber_32 (by decide) ?_
    refine z_iadd X dX12_tellsNumber_33 ?_
    obtain ⟨g2, hf⟩ := gif hf
    obtain ⟨r34, hr34, hf⟩ := obE hf
    refine y_V0 X cv_RX12_509 dX12_tellsNumber_34 g2 (c_M_puts d (Nat.zero_le _) l0 (w32 (48 + (w32 (Int.tmod (w32 (Int.tdiv l1 10)) 10)))) h r34 hr34) (as := [(0, w32 (48 + (w32 (Int.tmod (w32 (Int.tdiv l1 10)) 10))))]) rfl rfl (Nat.le_of_ble_eq_true rfl) z00 ?_
    exact (z_M_tellsNumber_j37 X hd l0 l1 r34 _ hf hK)
set_option maxHeartbeats 4000000 in
set_option maxRecDepth 100000 in
theorem c_M_tellsNumber {l : Launch} {g : GP} (d : Nat) (hd : 1 ≤ d) (l0 l1 : Int) (h : Hp) (y : Hp) (hf : M_tellsNumber l0 l1 h = some y) : zM l yX12_tellsNumber cX12_tellsNumber 2 none d 0 0 g 157 h [(2, l0), (0, l1)] 157 y none := by
  obtain ⟨d, rfl⟩ : ∃ k, d = k + 1 := ⟨d - 1, by omega⟩
  replace hd : 0 ≤ d := Nat.le_of_succ_le_succ hd
  refine z_start (by decide) (Nat.le_of_ble_eq_true rfl) (fun x X hK _ _ _ hl => ?_)
  show ZV g x 2 h 0 [(0, (2, l0)), (1, (0, l1))] []
  unfold M_tellsNumber at hf
  refine z_iload_n X dX12_tellsNumber_0 1 rfl ?_
  refine z_bipush X dX12_tellsNumber_1 kb_99 kc_99 ?_
  refine z_icmp_le X dX12_tellsNumber_3 rfl (fun hc3 => ?_) (fun hc3 => ?_)
  · have hf := ift hc3 hf
    exact (z_M_tellsNumber_j17 X hd l0 l1 h _ hf hK)
  · have hf := iff' hc3 hf
    refine z_aload_n X dX12_tellsNumber_6 0 rfl ?_
    refine z_bipush X dX12_tellsNumber_7 kb_48 kc_48 ?_
    refine z_iload_n X dX12_tellsNumber_9 1 rfl ?_
    refine z_bipush X dX12_tellsNumber_10 kb_100 kc_100 ?_
    refine z_idiv X dX12_tellsNumber_12 (by decide) ?_
    refine z_iadd X dX12_tellsNumber_13 ?_
    obtain ⟨g3, hf⟩ := gif hf
    obtain ⟨r14, hr14, hf⟩ := obE hf
    refine y_V0 X cv_RX12_509 dX12_tellsNumber_14 g3 (c_M_puts d (Nat.zero_le _) l0 (w32 (48 + (w32 (Int.tdiv l1 100)))) h r14 hr14) (as := [(0, w32 (48 + (w32 (Int.tdiv l1 100))))]) rfl rfl (Nat.le_of_ble_eq_true rfl) z00 ?_
    exact (z_M_tellsNumber_j17 X hd l0 l1 r14 _ hf hK)
set_option maxHeartbeats 4000000 in
set_option maxRecDepth 100000 in
theorem c_M_tell {l : Launch} {g : GP} (d : Nat) (hd : 4 ≤ d) (l0 l1 : Int) (h : Hp) (y : Int × Hp) (hf : M_tell d l0 l1 h = some y) : zM l yX12_tell cX12_tell 4 (some .int) d 0 0 g 157 h [(2, l0), (1, l1)] 157 y.2 (some (0, y.1)) := by
  obtain ⟨d, rfl⟩ : ∃ k, d = k + 1 := ⟨d - 1, by omega⟩
  replace hd : 3 ≤ d := Nat.le_of_succ_le_succ hd
  refine z_start (by decide) (Nat.le_of_ble_eq_true rfl) (fun x X hK _ _ _ hl => ?_)
  show ZV g x 4 h 0 [(0, (2, l0)), (1, (1, l1))] []
  unfold M_tell at hf
  refine z_aload_n X dX12_tell_0 0 rfl ?_
  refine z_lload_n X dX12_tell_1 1 rfl ?_
  obtain ⟨g1, hf⟩ := gif hf
  obtain ⟨r2, hr2, hf⟩ := obE hf
  refine y_V1 X cv_RX12_474 dX12_tell_2 g1 (c_M_laysWay d (Nat.le_trans (by decide) hd) l0 l1 h r2 hr2) (as := [(1, l1)]) rfl rfl (Nat.le_of_ble_eq_true rfl) z00 ?_
  refine z_istore_n X dX12_tell_5 (by decide) (ls' := [(3, (0, r2.1)), (0, (2, l0)), (1, (1, l1))]) rfl ?_
  refine z_iload_n X dX12_tell_6 0 rfl ?_
  refine z_if_eq X dX12_tell_7 rfl (fun hc7 => ?_) (fun hc7 => ?_)
  · have hf := ift hc7 hf
    refine z_aload_n X dX12_tell_12 1 rfl ?_
    refine z_iconst X dX12_tell_13 kc_0 ?_
    refine y_put X fl_RX12_361 dX12_tell_14 g1 rfl (by decide) ?_
    let h_1 : Hp := hput r2.2 l0 57 0
    refine z_aload_n X dX12_tell_17 1 rfl ?_
    refine z_iconst X dX12_tell_18 kc_0 ?_
    refine y_putZ X fl_RX12_505 dX12_tell_19 g1 (Or.inl rfl) ?_
    let h_2 : Hp := hput h_1 l0 58 0
    refine z_aload_n X dX12_tell_22 1 rfl ?_
    refine z_iconst X dX12_tell_23 kc_0 ?_
    refine z_iconst X dX12_tell_24 kc_0 ?_
    obtain ⟨r25, hr25, hf⟩ := obE hf
    refine y_V0 X cv_RX12_512 dX12_tell_25 g1 (c_M_tellsAbove d l0 0 0 h_2 r25 hr25) (as := [(0, 0), (0, 0)]) rfl rfl (Nat.le_of_ble_eq_true rfl) z00 ?_
    refine z_aload_n X dX12_tell_28 1 rfl ?_
    refine y_get X fl_RX12_361 dX12_tell_29 g1 ?_
    cases hf
    exact z_iret X hK dX12_tell_32
  · have hf := iff' hc7 hf
    refine z_iload_n X dX12_tell_10 0 rfl ?_
    cases hf
    exact z_iret X hK dX12_tell_11
set_option maxHeartbeats 4000000 in
set_option maxRecDepth 100000 in
theorem z_M_tellWay_j79 {g : GP} {x : CX} {d : Nat} (X : zX g x RX12 cX12_tellWay 5 (d + 1)) (hd : 3 ≤ d) (l0 l4 : Int) (h : Hp) (y : (Int × Hp) ⊕ (Hp)) (hf : M_tellWay_j79 (d + 1) l0 l4 h = some y) (E : Hp → Prop) (hx0 : ∀ e : Hp, E (e) → ZV g x 5 e 91 [(0, (2, l0))] []) (hk : z_sum (fun q : Int × Hp => ZV g x 5 q.2 20 [(0, (2, l0)), (4, (0, q.1))] []) E y) : ZV g x 5 h 79 [(0, (2, l0)), (4, (0, l4))] [] := by
  unfold M_tellWay_j79 at hf
  refine z_aload_n X dX12_tellWay_79 0 rfl ?_
  refine z_bipush X dX12_tellWay_80 kb_59 kc_59 ?_
  obtain ⟨g4, hf⟩ := gif hf
  obtain ⟨r82, hr82, hf⟩ := obE hf
  refine y_V0 X cv_RX12_509 dX12_tellWay_82 g4 (c_M_puts d (Nat.zero_le _) l0 59 h r82 hr82) (as := [(0, 59)]) rfl rfl (Nat.le_of_ble_eq_true rfl) z00 ?_
  refine z_iinc X dX12_tellWay_85 1 rfl (by decide) (ls' := [(4, (0, w32 (l4 + 1))), (0, (2, l0))]) rfl ?_
  refine z_goto X dX12_tellWay_88 rfl ?_
  cases hf
  exact z_weak [1, 0] rfl hk
set_option maxHeartbeats 4000000 in
set_option maxRecDepth 100000 in
theorem z_M_tellWay_L20 {g : GP} {x : CX} {d : Nat} (X : zX g x RX12 cX12_tellWay 5 (d + 1)) (hd : 3 ≤ d) (l0 : Int)  (E : Hp → Prop) (hx0 : ∀ e : Hp, E (e) → ZV g x 5 e 91 [(0, (2, l0))] []) (l4 : Int) (h : Hp) (y : (Int × Hp) ⊕ (Hp)) (hf : M_tellWay_L20 (d + 1) l0 l4 h = some y) (hk : z_sum (fun q : Int × Hp => ZV g x 5 q.2 20 [(0, (2, l0)), (4, (0, q.1))] []) E y) : ZV g x 5 h 20 [(0, (2, l0)), (4, (0, l4))] [] := by
  unfold M_tellWay_L20 at hf
  refine z_iload X dX12_tellWay_20 1 rfl ?_
  refine z_aload_n X dX12_tellWay_22 0 rfl ?_
  obtain ⟨g2, hf⟩ := gif hf
  refine y_get X fl_RX12_450 dX12_tellWay_23 g2 ?_
  refine z_icmp_ge X dX12_tellWay_26 rfl (fun hc26 => ?_) (fun hc26 => ?_)
  · have hf := ift hc26 hf
    cases hf
    exact z_weak [0] rfl (hx0 _ hk)
  · have hf := iff' hc26 hf
    refine z_aload_n X dX12_tellWay_29 0 rfl ?_
    refine z_aload_n X dX12_tellWay_30 0 rfl ?_
    refine y_get X fl_RX12_214 dX12_tellWay_31 g2 ?_
    refine z_iload X dX12_tellWay_34 1 rfl ?_
    obtain ⟨g3, hf⟩ := gif hf
    refine y_iald X dX12_tellWay_36 g3 ?_
    obtain ⟨r37, hr37, hf⟩ := obE hf
    refine y_V0 X cv_RX12_521 dX12_tellWay_37 g2 (c_M_tellsNumber d (Nat.le_trans (by decide) hd) l0 (h (h l0 49) l4) h r37 hr37) (as := [(0, h (h l0 49) l4)]) rfl rfl (Nat.le_of_ble_eq_true rfl) z00 ?_
    refine z_iload X dX12_tellWay_40 1 rfl ?_
    refine z_if_le X dX12_tellWay_42 rfl (fun hc42 => ?_) (fun hc42 => ?_)
    · have hf := ift hc42 hf
      exact (z_M_tellWay_j79 X hd l0 l4 r37 _ hf E hx0 hk)
    · have hf := iff' hc42 hf
      refine z_aload_n X dX12_tellWay_45 0 rfl ?_
      refine z_bipush X dX12_tellWay_46 kb_32 kc_32 ?_
      obtain ⟨r48, hr48, hf⟩ := obE hf
      refine y_V0 X cv_RX12_509 dX12_tellWay_48 g2 (c_M_puts d (Nat.zero_le _) l0 32 r37 r48 hr48) (as := [(0, 32)]) rfl rfl (Nat.le_of_ble_eq_true rfl) z00 ?_
      refine z_aload_n X dX12_tellWay_51 0 rfl ?_
      refine z_aload_n X dX12_tellWay_52 0 rfl ?_
      refine y_get X fl_RX12_217 dX12_tellWay_53 g2 ?_
      refine z_iload X dX12_tellWay_56 1 rfl ?_
      obtain ⟨g5, hf⟩ := gif hf
      refine y_iald X dX12_tellWay_58 g5 ?_
      obtain ⟨r59, hr59, hf⟩ := obE hf
      refine y_V0 X cv_RX12_521 dX12_tellWay_59 g2 (c_M_tellsNumber d (Nat.le_trans (by decide) hd) l0 (r48 (r48 l0 50) l4) r48 r59 hr59) (as := [(0, r48 (r48 l0 50) l4)]) rfl rfl (Nat.le_of_ble_eq_true rfl) z00 ?_
      refine z_aload_n X dX12_tellWay_62 0 rfl ?_
      refine z_bipush X dX12_tellWay_63 kb_32 kc_32 ?_
      obtain ⟨r65, hr65, hf⟩ := obE hf
      refine y_V0 X cv_RX12_509 dX12_tellWay_65 g2 (c_M_puts d (Nat.zero_le _) l0 32 r59 r65 hr65) (as := [(0, 32)]) rfl rfl (Nat.le_of_ble_eq_true rfl) z00 ?_
      refine z_aload_n X dX12_tellWay_68 0 rfl ?_
      refine z_aload_n X dX12_tellWay_69 0 rfl ?_
      refine y_get X fl_RX12_220 dX12_tellWay_70 g2 ?_
      refine z_iload X dX12_tellWay_73 1 rfl ?_
      obtain ⟨g6, hf⟩ := gif hf
      refine y_iald X dX12_tellWay_75 g6 ?_
      obtain ⟨r76, hr76, hf⟩ := obE hf
      refine y_V0 X cv_RX12_521 dX12_tellWay_76 g2 (c_M_tellsNumber d (Nat.le_trans (by decide) hd) l0 (r65 (r65 l0 51) l4) r65 r76 hr76) (as := [(0, r65 (r65 l0 51) l4)]) rfl rfl (Nat.le_of_ble_eq_true rfl) z00 ?_
      exact (z_M_tellWay_j79 X hd l0 l4 r76 _ hf E hx0 hk)
set_option maxHeartbeats 4000000 in
set_option maxRecDepth 100000 in
theorem c_M_tellWay {l : Launch} {g : GP} (d : Nat) (hd : 4 ≤ d) (l0 l1 : Int) (h : Hp) (y : Int × Hp) (hf : M_tellWay d l0 l1 h = some y) : zM l yX12_tellWay cX12_tellWay 5 (some .int) d 0 0 g 157 h [(2, l0), (1, l1)] 157 y.2 (some (0, y.1)) := by
  obtain ⟨d, rfl⟩ : ∃ k, d = k + 1 := ⟨d - 1, by omega⟩
  replace hd : 3 ≤ d := Nat.le_of_succ_le_succ hd
  refine z_start (by decide) (Nat.le_of_ble_eq_true rfl) (fun x X hK _ _ _ hl => ?_)
  show ZV g x 5 h 0 [(0, (2, l0)), (1, (1, l1))] []
  unfold M_tellWay at hf
  refine z_aload_n X dX12_tellWay_0 0 rfl ?_
  refine z_lload_n X dX12_tellWay_1 1 rfl ?_
  obtain ⟨g1, hf⟩ := gif hf
  obtain ⟨r2, hr2, hf⟩ := obE hf
  refine y_V1 X cv_RX12_474 dX12_tellWay_2 g1 (c_M_laysWay d (Nat.le_trans (by decide) hd) l0 l1 h r2 hr2) (as := [(1, l1)]) rfl rfl (Nat.le_of_ble_eq_true rfl) z00 ?_
  refine z_istore_n X dX12_tellWay_5 (by decide) (ls' := [(3, (0, r2.1)), (0, (2, l0)), (1, (1, l1))]) rfl ?_
  refine z_iload_n X dX12_tellWay_6 0 rfl ?_
  refine z_if_eq X dX12_tellWay_7 rfl (fun hc7 => ?_) (fun hc7 => ?_)
  · have hf := ift hc7 hf
    refine z_aload_n X dX12_tellWay_12 1 rfl ?_
    refine z_iconst X dX12_tellWay_13 kc_0 ?_
    refine y_put X fl_RX12_361 dX12_tellWay_14 g1 rfl (by decide) ?_
    let h_1 : Hp := hput r2.2 l0 57 0
    refine z_iconst X dX12_tellWay_17 kc_0 ?_
    refine z_istore X dX12_tellWay_18 (by decide) (ls' := [(4, (0, 0)), (3, (0, r2.1)), (0, (2, l0)), (1, (1, l1))]) rfl ?_
    obtain ⟨q20, hq20, hf⟩ := obE hf
    have hx20_0 : ∀ e91 : Hp, (e91 : Hp) = q20 → ZV g x 5 e91 91 [(0, (2, l0))] [] := by
      intro e91 hq
      subst hq
      refine z_aload_n X dX12_tellWay_91 0 rfl ?_
      refine y_get X fl_RX12_361 dX12_tellWay_92 g1 ?_
      cases hf
      exact z_iret X hK dX12_tellWay_95
    exact z_weak [2, 0] rfl (z_loop (Z := (fun q : Int × Hp => ZV g x 5 q.2 20 [(0, (2, l0)), (4, (0, q.1))] [])) (E := fun q => q = q20) (fun q y hb hk => z_M_tellWay_L20 X hd l0 (fun q => q = q20) hx20_0 q.1 q.2 y hb hk) LN (0, h_1) q20 hq20 rfl)
  · have hf := iff' hc7 hf
    refine z_iload_n X dX12_tellWay_10 0 rfl ?_
    cases hf
    exact z_iret X hK dX12_tellWay_11
set_option maxHeartbeats 4000000 in
set_option maxRecDepth 100000 in
theorem c_M_octet {l : Launch} {g : GP} (d : Nat) (hd : 1 ≤ d) (l0 l1 : Int) (h : Hp) (y : Int) (hf : M_octet l0 l1 h = some y) : zM l yX12_octet cX12_octet 2 (some .int) d 0 0 g 157 h [(2, l0), (0, l1)] 157 h (some (0, y)) := by
  obtain ⟨d, rfl⟩ : ∃ k, d = k + 1 := ⟨d - 1, by omega⟩
  replace hd : 0 ≤ d := Nat.le_of_succ_le_succ hd
  refine z_start (by decide) (Nat.le_of_ble_eq_true rfl) (fun x X hK _ _ _ hl => ?_)
  show ZV g x 2 h 0 [(0, (2, l0)), (1, (0, l1))] []
  unfold M_octet at hf
  refine z_iload_n X dX12_octet_0 1 rfl ?_
  refine z_i2l X dX12_octet_1 ?_
  refine z_lconst0 X dX12_octet_2 ?_
  refine z_aload_n X dX12_octet_3 0 rfl ?_
  obtain ⟨g1, hf⟩ := gif hf
  refine y_get X fl_RX12_361 dX12_octet_4 g1 ?_
  refine z_iconst X dX12_octet_7 kc_1 ?_
  refine z_isub X dX12_octet_8 ?_
  refine z_i2l X dX12_octet_9 ?_
  obtain ⟨r10, hr10, hf⟩ := obE hf
  refine y_S1 X cs_RX12_14 dX12_octet_10 (c_M_in d (Nat.zero_le _) l1 0 (w32 ((h l0 57) - 1)) h r10 hr10) (as := [(1, l1), (1, 0), (1, w32 ((h l0 57) - 1))]) rfl rfl (Nat.le_of_ble_eq_true rfl) z00 ?_
  refine z_if_eq X dX12_octet_13 rfl (fun hc13 => ?_) (fun hc13 => ?_)
  · have hf := ift hc13 hf
    refine z_iconst X dX12_octet_25 kc_m1 ?_
    cases hf
    exact z_iret X hK dX12_octet_26
  · have hf := iff' hc13 hf
    refine z_aload_n X dX12_octet_16 0 rfl ?_
    refine y_get X fl_RX12_235 dX12_octet_17 g1 ?_
    refine z_iload_n X dX12_octet_20 1 rfl ?_
    obtain ⟨g2, hf⟩ := gif hf
    refine y_bald X dX12_octet_21 g2 ?_
    refine z_goto X dX12_octet_22 rfl ?_
    cases hf
    exact z_iret X hK dX12_octet_26
set_option maxHeartbeats 4000000 in
set_option maxRecDepth 100000 in
theorem z_M_numberToken_L42 {g : GP} {x : CX} {d : Nat} (X : zX g x RX12 cX12_numberToken 2 (d + 1)) (hd : 1 ≤ d) (l0 : Int)  (E : Hp → Prop) (hx0 : ∀ e : Hp, E (e) → ZV g x 2 e 111 [(0, (2, l0))] []) (h : Hp) (y : (Hp) ⊕ (Hp)) (hf : M_numberToken_L42 l0 h = some y) (hk : z_sum (fun q : Hp => ZV g x 2 q 42 [(0, (2, l0))] []) E y) : ZV g x 2 h 42 [(0, (2, l0))] [] := by
  unfold M_numberToken_L42 at hf
  refine z_aload_n X dX12_numberToken_42 0 rfl ?_
  refine z_aload_n X dX12_numberToken_43 0 rfl ?_
  obtain ⟨g4, hf⟩ := gif hf
  refine y_get X fl_RX12_45 dX12_numberToken_44 g4 ?_
  obtain ⟨r47, hr47, hf⟩ := obE hf
  refine y_V1 X cv_RX12_48 dX12_numberToken_47 g4 (c_M_see d (Nat.zero_le _) l0 (h l0 23) h r47 hr47) (as := [(0, h l0 23)]) rfl rfl (Nat.le_of_ble_eq_true rfl) z00 ?_
  refine z_i2l X dX12_numberToken_50 ?_
  refine z_ldc2 X kj_RX12_524 kl_48 dX12_numberToken_51 ?_
  refine z_ldc2 X kj_RX12_526 kl_57 dX12_numberToken_54 ?_
  obtain ⟨r57, hr57, hf⟩ := obE hf
  refine y_S1 X cs_RX12_14 dX12_numberToken_57 (c_M_in d (Nat.zero_le _) r47 48 57 h r57 hr57) (as := [(1, r47), (1, 48), (1, 57)]) rfl rfl (Nat.le_of_ble_eq_true rfl) z00 ?_
  refine z_if_eq X dX12_numberToken_60 rfl (fun hc60 => ?_) (fun hc60 => ?_)
  · have hf := ift hc60 hf
    cases hf
    exact (hx0 _ hk)
  · have hf := iff' hc60 hf
    refine z_aload_n X dX12_numberToken_63 0 rfl ?_
    refine z_ldcw X ki_RX12_528 kc_99999 dX12_numberToken_64 ?_
    refine z_bipush X dX12_numberToken_67 kb_10 kc_10 ?_
    refine z_aload_n X dX12_numberToken_69 0 rfl ?_
    refine y_get X fl_RX12_58 dX12_numberToken_70 g4 ?_
    refine z_imul X dX12_numberToken_73 ?_
    refine z_aload_n X dX12_numberToken_74 0 rfl ?_
    refine z_aload_n X dX12_numberToken_75 0 rfl ?_
    refine y_get X fl_RX12_45 dX12_numberToken_76 g4 ?_
    obtain ⟨r79, hr79, hf⟩ := obE hf
    refine y_V1 X cv_RX12_48 dX12_numberToken_79 g4 (c_M_see d (Nat.zero_le _) l0 (h l0 23) h r79 hr79) (as := [(0, h l0 23)]) rfl rfl (Nat.le_of_ble_eq_true rfl) z00 ?_
    refine z_iadd X dX12_numberToken_82 ?_
    refine z_bipush X dX12_numberToken_83 kb_48 kc_48 ?_
    refine z_isub X dX12_numberToken_85 ?_
    refine y_min X cm_RX12_330 dX12_numberToken_86 (Nat.le_of_ble_eq_true rfl) ?_
    refine y_put X fl_RX12_58 dX12_numberToken_89 g4 rfl (by decide) ?_
    let h_3 : Hp := hput h l0 26 (min 99999 (w32 ((w32 ((w32 (10 * (h l0 26))) + r79)) - 48)))
    refine z_aload_n X dX12_numberToken_92 0 rfl ?_
    refine z_dup X ne2 dX12_numberToken_93 ?_
    refine y_get X fl_RX12_45 dX12_numberToken_94 g4 ?_
    refine z_iconst X dX12_numberToken_97 kc_1 ?_
    refine z_iadd X dX12_numberToken_98 ?_
    refine y_put X fl_RX12_45 dX12_numberToken_99 g4 rfl (by decide) ?_
    let h_4 : Hp := hput h_3 l0 23 (w32 ((h_3 l0 23) + 1))
    refine z_aload_n X dX12_numberToken_102 0 rfl ?_
    refine z_bipush X dX12_numberToken_103 kb_6 kc_6 ?_
    refine y_put X fl_RX12_61 dX12_numberToken_105 g4 rfl (by decide) ?_
    let h_5 : Hp := hput h_4 l0 25 6
    refine z_goto X dX12_numberToken_108 rfl ?_
    cases hf
    exact hk
set_option maxHeartbeats 4000000 in
set_option maxRecDepth 100000 in
theorem z_M_numberToken_j34 {g : GP} {x : CX} {d : Nat} (X : zX g x RX12 cX12_numberToken 2 (d + 1)) (hd : 1 ≤ d) (l0 s0 s1 : Int) (h : Hp) (y : Hp) (hf : M_numberToken_j34 l0 s0 s1 h = some y) (hK : zE g x none 0 0 157 y none) : ZV g x 2 h 34 [(0, (2, l0))] [(0, s0), (2, s1)] := by
  unfold M_numberToken_j34 at hf
  obtain ⟨g2, hf⟩ := gif hf
  refine y_put X fl_RX12_61 dX12_numberToken_34 g2 rfl (by decide) ?_
  let h_1 : Hp := hput h s1 25 s0
  refine z_aload_n X dX12_numberToken_37 0 rfl ?_
  refine z_iconst X dX12_numberToken_38 kc_0 ?_
  obtain ⟨g3, hf⟩ := gif hf
  refine y_put X fl_RX12_58 dX12_numberToken_39 g3 rfl (by decide) ?_
  let h_2 : Hp := hput h_1 l0 26 0
  obtain ⟨q42, hq42, hf⟩ := obE hf
  have hx42_0 : ∀ e111 : Hp, (e111 : Hp) = q42 → ZV g x 2 e111 111 [(0, (2, l0))] [] := by
    intro e111 hq
    subst hq
    refine z_aload_n X dX12_numberToken_111 0 rfl ?_
    refine y_get X fl_RX12_61 dX12_numberToken_112 g3 ?_
    refine z_iconst X dX12_numberToken_115 kc_4 ?_
    refine z_icmp_ne X dX12_numberToken_116 rfl (fun hc116 => ?_) (fun hc116 => ?_)
    · have hf := iff' hc116 hf
      cases hf
      exact z_vret X hK dX12_numberToken_129
    · have hf := ift hc116 hf
      refine z_aload_n X dX12_numberToken_119 0 rfl ?_
      refine z_dup X ne2 dX12_numberToken_120 ?_
      refine y_get X fl_RX12_45 dX12_numberToken_121 g3 ?_
      refine z_iconst X dX12_numberToken_124 kc_1 ?_
      refine z_iadd X dX12_numberToken_125 ?_
      refine y_put X fl_RX12_45 dX12_numberToken_126 g3 rfl (by decide) ?_
      let h_6 : Hp := hput e111 l0 23 (w32 ((e111 l0 23) + 1))
      cases hf
      exact z_vret X hK dX12_numberToken_129
  exact (z_loop (Z := (fun q : Hp => ZV g x 2 q 42 [(0, (2, l0))] [])) (E := fun q => q = q42) (fun q y hb hk => z_M_numberToken_L42 X hd l0 (fun q => q = q42) hx42_0 q y hb hk) LN h_2 q42 hq42 rfl)
set_option maxHeartbeats 4000000 in
set_option maxRecDepth 100000 in
theorem c_M_numberToken {l : Launch} {g : GP} (d : Nat) (hd : 2 ≤ d) (l0 : Int) (h : Hp) (y : Hp) (hf : M_numberToken l0 h = some y) : zM l yX12_numberToken cX12_numberToken 2 none d 0 0 g 157 h [(2, l0)] 157 y none := by
  obtain ⟨d, rfl⟩ : ∃ k, d = k + 1 := ⟨d - 1, by omega⟩
  replace hd : 1 ≤ d := Nat.le_of_succ_le_succ hd
  refine z_start (by decide) (Nat.le_of_ble_eq_true rfl) (fun x X hK _ _ _ hl => ?_)
  show ZV g x 2 h 0 [(0, (2, l0))] []
  unfold M_numberToken at hf
  refine z_aload_n X dX12_numberToken_0 0 rfl ?_
  obtain ⟨g1, hf⟩ := gif hf
  obtain ⟨r1, hr1, hf⟩ := obE hf
  refine y_V0 X cv_RX12_54 dX12_numberToken_1 g1 (c_M_skips d (Nat.le_trans (by decide) hd) l0 h r1 hr1) (as := []) rfl rfl (Nat.le_of_ble_eq_true rfl) z00 ?_
  refine z_aload_n X dX12_numberToken_4 0 rfl ?_
  refine z_aload_n X dX12_numberToken_5 0 rfl ?_
  refine y_get X fl_RX12_45 dX12_numberToken_6 g1 ?_
  obtain ⟨r9, hr9, hf⟩ := obE hf
  refine y_V1 X cv_RX12_48 dX12_numberToken_9 g1 (c_M_see d (Nat.zero_le _) l0 (r1 l0 23) r1 r9 hr9) (as := [(0, r1 l0 23)]) rfl rfl (Nat.le_of_ble_eq_true rfl) z00 ?_
  refine z_istore_n X dX12_numberToken_12 (by decide) (ls' := [(1, (0, r9)), (0, (2, l0))]) rfl ?_
  refine z_aload_n X dX12_numberToken_13 1 rfl ?_
  refine z_iload_n X dX12_numberToken_14 0 rfl ?_
  refine z_iconst X dX12_numberToken_15 kc_m1 ?_
  refine z_icmp_ne X dX12_numberToken_16 rfl (fun hc16 => ?_) (fun hc16 => ?_)
  · rw [if_neg hc16] at hf
    refine z_iload_n X dX12_numberToken_23 0 rfl ?_
    refine z_bipush X dX12_numberToken_24 kb_59 kc_59 ?_
    refine z_icmp_ne X dX12_numberToken_26 rfl (fun hc26 => ?_) (fun hc26 => ?_)
    · rw [if_neg hc26] at hf
      refine z_iconst X dX12_numberToken_33 kc_5 ?_
      exact z_weak [1] rfl (z_M_numberToken_j34 X hd l0 5 l0 r1 _ hf hK)
    · rw [if_pos hc26] at hf
      refine z_iconst X dX12_numberToken_29 kc_4 ?_
      refine z_goto X dX12_numberToken_30 rfl ?_
      exact z_weak [1] rfl (z_M_numberToken_j34 X hd l0 4 l0 r1 _ hf hK)
  · rw [if_pos hc16] at hf
    refine z_iconst X dX12_numberToken_19 kc_0 ?_
    refine z_goto X dX12_numberToken_20 rfl ?_
    exact z_weak [1] rfl (z_M_numberToken_j34 X hd l0 0 l0 r1 _ hf hK)
set_option maxHeartbeats 4000000 in
set_option maxRecDepth 100000 in
theorem z_M_hearsNumber_j27 {g : GP} {x : CX} {d : Nat} (X : zX g x RX12 cX12_hearsNumber 2 (d + 1)) (hd : 2 ≤ d) (l0 l1 s0 s1 : Int) (h : Hp) (y : Int × Hp) (hf : M_hearsNumber_j27 l0 l1 s0 s1 h = some y) (hK : zE g x (some .int) 0 0 157 y.2 (some (0, y.1))) : ZV g x 2 h 27 [(0, (2, l0)), (1, (0, l1))] [(0, s0), (2, s1)] := by
  unfold M_hearsNumber_j27 at hf
  obtain ⟨g2, hf⟩ := gif hf
  obtain ⟨g3, hf⟩ := gif hf
  refine y_putZ X fl_RX12_529 dX12_hearsNumber_27 g2 g3 ?_
  let h_1 : Hp := hput h s1 61 s0
  refine z_aload_n X dX12_hearsNumber_30 0 rfl ?_
  obtain ⟨g4, hf⟩ := gif hf
  obtain ⟨r31, hr31, hf⟩ := obE hf
  refine y_V0 X cv_RX12_532 dX12_hearsNumber_31 g4 (c_M_numberToken d (Nat.le_trans (by decide) hd) l0 h_1 r31 hr31) (as := []) rfl rfl (Nat.le_of_ble_eq_true rfl) z00 ?_
  refine z_iload_n X dX12_hearsNumber_34 1 rfl ?_
  cases hf
  exact z_iret X hK dX12_hearsNumber_35
set_option maxHeartbeats 4000000 in
set_option maxRecDepth 100000 in
theorem z_M_hearsNumber_j26 {g : GP} {x : CX} {d : Nat} (X : zX g x RX12 cX12_hearsNumber 2 (d + 1)) (hd : 2 ≤ d) (l0 l1 s0 : Int) (h : Hp) (y : Int × Hp) (hf : M_hearsNumber_j26 l0 l1 s0 h = some y) (hK : zE g x (some .int) 0 0 157 y.2 (some (0, y.1))) : ZV g x 2 h 26 [(0, (2, l0)), (1, (0, l1))] [(2, s0)] := by
  unfold M_hearsNumber_j26 at hf
  refine z_iconst X dX12_hearsNumber_26 kc_0 ?_
  exact (z_M_hearsNumber_j27 X hd l0 l1 0 s0 h _ hf hK)
set_option maxHeartbeats 4000000 in
set_option maxRecDepth 100000 in
theorem c_M_hearsNumber {l : Launch} {g : GP} (d : Nat) (hd : 3 ≤ d) (l0 : Int) (h : Hp) (y : Int × Hp) (hf : M_hearsNumber l0 h = some y) : zM l yX12_hearsNumber cX12_hearsNumber 2 (some .int) d 0 0 g 157 h [(2, l0)] 157 y.2 (some (0, y.1)) := by
  obtain ⟨d, rfl⟩ : ∃ k, d = k + 1 := ⟨d - 1, by omega⟩
  replace hd : 2 ≤ d := Nat.le_of_succ_le_succ hd
  refine z_start (by decide) (Nat.le_of_ble_eq_true rfl) (fun x X hK _ _ _ hl => ?_)
  show ZV g x 2 h 0 [(0, (2, l0))] []
  unfold M_hearsNumber at hf
  refine z_aload_n X dX12_hearsNumber_0 0 rfl ?_
  obtain ⟨g1, hf⟩ := gif hf
  refine y_get X fl_RX12_58 dX12_hearsNumber_1 g1 ?_
  refine z_istore_n X dX12_hearsNumber_4 (by decide) (ls' := [(1, (0, h l0 26)), (0, (2, l0))]) rfl ?_
  refine z_aload_n X dX12_hearsNumber_5 1 rfl ?_
  refine z_aload_n X dX12_hearsNumber_6 1 rfl ?_
  refine y_get X fl_RX12_529 dX12_hearsNumber_7 g1 ?_
  refine z_if_eq X dX12_hearsNumber_10 rfl (fun hc10 => ?_) (fun hc10 => ?_)
  · have hf := ift hc10 hf
    exact z_weak [1, 0] rfl (z_M_hearsNumber_j26 X hd l0 (h l0 26) l0 h _ hf hK)
  · have hf := iff' hc10 hf
    refine z_aload_n X dX12_hearsNumber_13 1 rfl ?_
    refine y_get X fl_RX12_61 dX12_hearsNumber_14 g1 ?_
    refine z_bipush X dX12_hearsNumber_17 kb_6 kc_6 ?_
    refine z_icmp_ne X dX12_hearsNumber_19 rfl (fun hc19 => ?_) (fun hc19 => ?_)
    · have hf := iff' hc19 hf
      exact z_weak [1, 0] rfl (z_M_hearsNumber_j26 X hd l0 (h l0 26) l0 h _ hf hK)
    · have hf := ift hc19 hf
      refine z_iconst X dX12_hearsNumber_22 kc_1 ?_
      refine z_goto X dX12_hearsNumber_23 rfl ?_
      exact z_weak [1, 0] rfl (z_M_hearsNumber_j27 X hd l0 (h l0 26) 1 l0 h _ hf hK)
set_option maxHeartbeats 4000000 in
set_option maxRecDepth 100000 in
theorem z_M_hears_j158 {g : GP} {x : CX} {d : Nat} (X : zX g x RX12 cX12_hears 1 (d + 1)) (hd : 3 ≤ d) (l0 s0 s1 : Int) (h : Hp) (y : (Hp) ⊕ ((Hp) ⊕ (Hp))) (hf : M_hears_j158 l0 s0 s1 h = some y) (E : (Hp) ⊕ (Hp) → Prop) (hx0 : ∀ e : Hp, E (.inl e) → ZV g x 1 e 65 [] []) (hx1 : ∀ e : Hp, E (.inr e) → ZV g x 1 e 178 [] []) (hk : z_sum (fun q : Hp => ZV g x 1 q 19 [(0, (2, l0))] []) E y) : ZV g x 1 h 158 [(0, (2, l0))] [(0, s0), (2, s1)] := by
  unfold M_hears_j158 at hf
  obtain ⟨g12, hf⟩ := gif hf
  obtain ⟨g13, hf⟩ := gif hf
  refine y_putZ X fl_RX12_529 dX12_hears_158 g12 g13 ?_
  let h_8 : Hp := hput h s1 61 s0
  refine z_aload_n X dX12_hears_161 0 rfl ?_
  refine z_dup X ne2 dX12_hears_162 ?_
  obtain ⟨g14, hf⟩ := gif hf
  refine y_get X fl_RX12_535 dX12_hears_163 g14 ?_
  refine z_iconst X dX12_hears_166 kc_1 ?_
  refine z_iadd X dX12_hears_167 ?_
  refine y_put X fl_RX12_535 dX12_hears_168 g14 rfl (by decide) ?_
  let h_9 : Hp := hput h_8 l0 60 (w32 ((h_8 l0 60) + 1))
  refine z_aload_n X dX12_hears_171 0 rfl ?_
  obtain ⟨r172, hr172, hf⟩ := obE hf
  refine y_V0 X cv_RX12_532 dX12_hears_172 g14 (c_M_numberToken d (Nat.le_trans (by decide) hd) l0 h_9 r172 hr172) (as := []) rfl rfl (Nat.le_of_ble_eq_true rfl) z00 ?_
  refine z_goto X dX12_hears_175 rfl ?_
  cases hf
  exact hk
set_option maxHeartbeats 4000000 in
set_option maxRecDepth 100000 in
theorem z_M_hears_j157 {g : GP} {x : CX} {d : Nat} (X : zX g x RX12 cX12_hears 1 (d + 1)) (hd : 3 ≤ d) (l0 s0 : Int) (h : Hp) (y : (Hp) ⊕ ((Hp) ⊕ (Hp))) (hf : M_hears_j157 l0 s0 h = some y) (E : (Hp) ⊕ (Hp) → Prop) (hx0 : ∀ e : Hp, E (.inl e) → ZV g x 1 e 65 [] []) (hx1 : ∀ e : Hp, E (.inr e) → ZV g x 1 e 178 [] []) (hk : z_sum (fun q : Hp => ZV g x 1 q 19 [(0, (2, l0))] []) E y) : ZV g x 1 h 157 [(0, (2, l0))] [(2, s0)] := by
  unfold M_hears_j157 at hf
  refine z_iconst X dX12_hears_157 kc_0 ?_
  exact (z_M_hears_j158 X hd l0 0 s0 h _ hf E hx0 hx1 hk)
set_option maxHeartbeats 4000000 in
set_option maxRecDepth 100000 in
theorem z_M_hears_j136 {g : GP} {x : CX} {d : Nat} (X : zX g x RX12 cX12_hears 1 (d + 1)) (hd : 3 ≤ d) (l0 s0 s1 s2 : Int) (h : Hp) (y : (Hp) ⊕ ((Hp) ⊕ (Hp))) (hf : M_hears_j136 l0 s0 s1 s2 h = some y) (E : (Hp) ⊕ (Hp) → Prop) (hx0 : ∀ e : Hp, E (.inl e) → ZV g x 1 e 65 [] []) (hx1 : ∀ e : Hp, E (.inr e) → ZV g x 1 e 178 [] []) (hk : z_sum (fun q : Hp => ZV g x 1 q 19 [(0, (2, l0))] []) E y) : ZV g x 1 h 136 [(0, (2, l0))] [(0, s0), (0, s1), (2, s2)] := by
  unfold M_hears_j136 at hf
  obtain ⟨g10, hf⟩ := gif hf
  refine y_iast X dX12_hears_136 g10 ?_
  let h_7 : Hp := hput h s2 s1 s0
  refine z_aload_n X dX12_hears_137 0 rfl ?_
  refine z_aload_n X dX12_hears_138 0 rfl ?_
  obtain ⟨g11, hf⟩ := gif hf
  refine y_get X fl_RX12_529 dX12_hears_139 g11 ?_
  refine z_if_eq X dX12_hears_142 rfl (fun hc142 => ?_) (fun hc142 => ?_)
  · have hf := ift hc142 hf
    exact (z_M_hears_j157 X hd l0 l0 h_7 _ hf E hx0 hx1 hk)
  · have hf := iff' hc142 hf
    refine z_aload_n X dX12_hears_145 0 rfl ?_
    refine y_get X fl_RX12_61 dX12_hears_146 g11 ?_
    refine z_iconst X dX12_hears_149 kc_4 ?_
    refine z_icmp_ne X dX12_hears_150 rfl (fun hc150 => ?_) (fun hc150 => ?_)
    · have hf := iff' hc150 hf
      exact (z_M_hears_j157 X hd l0 l0 h_7 _ hf E hx0 hx1 hk)
    · have hf := ift hc150 hf
      refine z_iconst X dX12_hears_153 kc_1 ?_
      refine z_goto X dX12_hears_154 rfl ?_
      exact (z_M_hears_j158 X hd l0 1 l0 h_7 _ hf E hx0 hx1 hk)
set_option maxHeartbeats 4000000 in
set_option maxRecDepth 100000 in
theorem z_M_hears_j108 {g : GP} {x : CX} {d : Nat} (X : zX g x RX12 cX12_hears 1 (d + 1)) (hd : 3 ≤ d) (l0 s0 s1 s2 : Int) (h : Hp) (y : (Hp) ⊕ ((Hp) ⊕ (Hp))) (hf : M_hears_j108 l0 s0 s1 s2 h = some y) (E : (Hp) ⊕ (Hp) → Prop) (hx0 : ∀ e : Hp, E (.inl e) → ZV g x 1 e 65 [] []) (hx1 : ∀ e : Hp, E (.inr e) → ZV g x 1 e 178 [] []) (hk : z_sum (fun q : Hp => ZV g x 1 q 19 [(0, (2, l0))] []) E y) : ZV g x 1 h 108 [(0, (2, l0))] [(0, s0), (0, s1), (2, s2)] := by
  unfold M_hears_j108 at hf
  obtain ⟨g8, hf⟩ := gif hf
  refine y_iast X dX12_hears_108 g8 ?_
  let h_6 : Hp := hput h s2 s1 s0
  refine z_aload_n X dX12_hears_109 0 rfl ?_
  obtain ⟨g9, hf⟩ := gif hf
  refine y_get X fl_RX12_238 dX12_hears_110 g9 ?_
  refine z_iconst X dX12_hears_113 kc_3 ?_
  refine z_aload_n X dX12_hears_114 0 rfl ?_
  refine y_get X fl_RX12_535 dX12_hears_115 g9 ?_
  refine z_imul X dX12_hears_118 ?_
  refine z_iconst X dX12_hears_119 kc_2 ?_
  refine z_iadd X dX12_hears_120 ?_
  refine z_aload_n X dX12_hears_121 0 rfl ?_
  refine y_get X fl_RX12_535 dX12_hears_122 g9 ?_
  refine z_if_ne X dX12_hears_125 rfl (fun hc125 => ?_) (fun hc125 => ?_)
  · have hf := iff' hc125 hf
    refine z_aload_n X dX12_hears_132 0 rfl ?_
    obtain ⟨r133, hr133, hf⟩ := obE hf
    refine y_V1 X cv_RX12_538 dX12_hears_133 g9 (c_M_hearsNumber d (Nat.le_trans (by decide) hd) l0 h_6 r133 hr133) (as := []) rfl rfl (Nat.le_of_ble_eq_true rfl) z00 ?_
    exact (z_M_hears_j136 X hd l0 r133.1 (w32 ((w32 (3 * (h_6 l0 60))) + 2)) (h_6 l0 59) r133.2 _ hf E hx0 hx1 hk)
  · have hf := ift hc125 hf
    refine z_iconst X dX12_hears_128 kc_m1 ?_
    refine z_goto X dX12_hears_129 rfl ?_
    exact (z_M_hears_j136 X hd l0 ((-1)) (w32 ((w32 (3 * (h_6 l0 60))) + 2)) (h_6 l0 59) h_6 _ hf E hx0 hx1 hk)
set_option maxHeartbeats 4000000 in
set_option maxRecDepth 100000 in
theorem z_M_hears_j55 {g : GP} {x : CX} {d : Nat} (X : zX g x RX12 cX12_hears 1 (d + 1)) (hd : 3 ≤ d) (l0 s0 s1 : Int) (h : Hp) (y : (Hp) ⊕ ((Hp) ⊕ (Hp))) (hf : M_hears_j55 l0 s0 s1 h = some y) (E : (Hp) ⊕ (Hp) → Prop) (hx0 : ∀ e : Hp, E (.inl e) → ZV g x 1 e 65 [] []) (hx1 : ∀ e : Hp, E (.inr e) → ZV g x 1 e 178 [] []) (hk : z_sum (fun q : Hp => ZV g x 1 q 19 [(0, (2, l0))] []) E y) : ZV g x 1 h 55 [(0, (2, l0))] [(0, s0), (2, s1)] := by
  unfold M_hears_j55 at hf
  obtain ⟨g4, hf⟩ := gif hf
  obtain ⟨g5, hf⟩ := gif hf
  refine y_putZ X fl_RX12_529 dX12_hears_55 g4 g5 ?_
  let h_4 : Hp := hput h s1 61 s0
  refine z_aload_n X dX12_hears_58 0 rfl ?_
  obtain ⟨g6, hf⟩ := gif hf
  refine y_get X fl_RX12_529 dX12_hears_59 g6 ?_
  refine z_if_ne X dX12_hears_62 rfl (fun hc62 => ?_) (fun hc62 => ?_)
  · have hf := iff' hc62 hf
    refine z_aload_n X dX12_hears_66 0 rfl ?_
    refine y_get X fl_RX12_238 dX12_hears_67 g6 ?_
    refine z_iconst X dX12_hears_70 kc_3 ?_
    refine z_aload_n X dX12_hears_71 0 rfl ?_
    refine y_get X fl_RX12_535 dX12_hears_72 g6 ?_
    refine z_imul X dX12_hears_75 ?_
    refine z_aload_n X dX12_hears_76 0 rfl ?_
    obtain ⟨r77, hr77, hf⟩ := obE hf
    refine y_V1 X cv_RX12_538 dX12_hears_77 g6 (c_M_hearsNumber d (Nat.le_trans (by decide) hd) l0 h_4 r77 hr77) (as := []) rfl rfl (Nat.le_of_ble_eq_true rfl) z00 ?_
    obtain ⟨g7, hf⟩ := gif hf
    refine y_iast X dX12_hears_80 g7 ?_
    let h_5 : Hp := hput r77.2 (h_4 l0 59) (w32 (3 * (h_4 l0 60))) r77.1
    refine z_aload_n X dX12_hears_81 0 rfl ?_
    refine y_get X fl_RX12_238 dX12_hears_82 g6 ?_
    refine z_iconst X dX12_hears_85 kc_3 ?_
    refine z_aload_n X dX12_hears_86 0 rfl ?_
    refine y_get X fl_RX12_535 dX12_hears_87 g6 ?_
    refine z_imul X dX12_hears_90 ?_
    refine z_iconst X dX12_hears_91 kc_1 ?_
    refine z_iadd X dX12_hears_92 ?_
    refine z_aload_n X dX12_hears_93 0 rfl ?_
    refine y_get X fl_RX12_535 dX12_hears_94 g6 ?_
    refine z_if_ne X dX12_hears_97 rfl (fun hc97 => ?_) (fun hc97 => ?_)
    · have hf := iff' hc97 hf
      refine z_aload_n X dX12_hears_104 0 rfl ?_
      obtain ⟨r105, hr105, hf⟩ := obE hf
      refine y_V1 X cv_RX12_538 dX12_hears_105 g6 (c_M_hearsNumber d (Nat.le_trans (by decide) hd) l0 h_5 r105 hr105) (as := []) rfl rfl (Nat.le_of_ble_eq_true rfl) z00 ?_
      exact (z_M_hears_j108 X hd l0 r105.1 (w32 ((w32 (3 * (h_5 l0 60))) + 1)) (h_5 l0 59) r105.2 _ hf E hx0 hx1 hk)
    · have hf := ift hc97 hf
      refine z_iconst X dX12_hears_100 kc_m1 ?_
      refine z_goto X dX12_hears_101 rfl ?_
      exact (z_M_hears_j108 X hd l0 ((-1)) (w32 ((w32 (3 * (h_5 l0 60))) + 1)) (h_5 l0 59) h_5 _ hf E hx0 hx1 hk)
  · have hf := ift hc62 hf
    cases hf
    exact z_weak [] rfl (hx0 _ hk)
