set_option maxHeartbeats 4000000 in
set_option maxRecDepth 100000 in
theorem z_Ch_fillBranch_j106 {g : GP} {x : CX} {d : Nat} (X : zX g x RX2 cX2_fillBranch 13 (d + 1)) (hd : 2 ≤ d) (l0 l1 l2 l3 l4 l5 l6 l7 l8 s0 : Int) (h : Hp) (y : (Int × Hp) ⊕ (Hp)) (hf : Ch_fillBranch_j106 l0 l1 l2 l3 l4 l5 l6 l7 l8 s0 h = some y) (E : Hp → Prop) (hx0 : ∀ e : Hp, E (e) → ZV g x 13 e 231 [(0, (2, l0)), (1, (0, l1)), (2, (0, l2)), (3, (0, l3)), (4, (0, l4)), (5, (0, l5))] []) (hk : z_sum (fun q : Int × Hp => ZV g x 13 q.2 71 [(0, (2, l0)), (1, (0, l1)), (2, (0, l2)), (3, (0, l3)), (4, (0, l4)), (5, (0, l5)), (6, (0, l6)), (7, (0, q.1))] []) E y) : ZV g x 13 h 106 [(0, (2, l0)), (1, (0, l1)), (2, (0, l2)), (3, (0, l3)), (4, (0, l4)), (5, (0, l5)), (6, (0, l6)), (7, (0, l7)), (8, (0, l8))] [(0, s0)] := by
  unfold Ch_fillBranch_j106 at hf
  refine z_istore X dX2_fillBranch_106 (by decide) (ls' := [(9, (0, s0)), (0, (2, l0)), (1, (0, l1)), (2, (0, l2)), (3, (0, l3)), (4, (0, l4)), (5, (0, l5)), (6, (0, l6)), (7, (0, l7)), (8, (0, l8))]) rfl ?_
  obtain ⟨q108, hq108, hf⟩ := obE hf
  have hx108_0 : ∀ e225 : Hp, (e225 : Hp) = q108 → ZV g x 13 e225 225 [(0, (2, l0)), (1, (0, l1)), (2, (0, l2)), (3, (0, l3)), (4, (0, l4)), (5, (0, l5)), (6, (0, l6)), (7, (0, l7))] [] := by
    intro e225 hq
    subst hq
    refine z_iinc X dX2_fillBranch_225 7 rfl (by decide) (ls' := [(7, (0, w32 (l7 + 1))), (0, (2, l0)), (1, (0, l1)), (2, (0, l2)), (3, (0, l3)), (4, (0, l4)), (5, (0, l5)), (6, (0, l6))]) rfl ?_
    refine z_goto X dX2_fillBranch_228 rfl ?_
    cases hf
    exact z_weak [1, 2, 3, 4, 5, 6, 7, 0] rfl hk
  exact z_weak [1, 2, 3, 4, 5, 6, 7, 8, 9, 0] rfl (z_loop (Z := (fun q : Int × Hp => ZV g x 13 q.2 108 [(0, (2, l0)), (1, (0, l1)), (2, (0, l2)), (3, (0, l3)), (4, (0, l4)), (5, (0, l5)), (6, (0, l6)), (7, (0, l7)), (8, (0, l8)), (9, (0, q.1))] [])) (E := fun q => q = q108) (fun q y hb hk => z_Ch_fillBranch_L108 X hd l0 l1 l2 l3 l4 l5 l6 l7 l8 (fun q => q = q108) hx108_0 q.1 q.2 y hb hk) LN (s0, h) q108 hq108 rfl)
set_option maxHeartbeats 4000000 in
set_option maxRecDepth 100000 in
theorem z_Ch_fillBranch_j93 {g : GP} {x : CX} {d : Nat} (X : zX g x RX2 cX2_fillBranch 13 (d + 1)) (hd : 2 ≤ d) (l0 l1 l2 l3 l4 l5 l6 l7 s0 : Int) (h : Hp) (y : (Int × Hp) ⊕ (Hp)) (hf : Ch_fillBranch_j93 l0 l1 l2 l3 l4 l5 l6 l7 s0 h = some y) (E : Hp → Prop) (hx0 : ∀ e : Hp, E (e) → ZV g x 13 e 231 [(0, (2, l0)), (1, (0, l1)), (2, (0, l2)), (3, (0, l3)), (4, (0, l4)), (5, (0, l5))] []) (hk : z_sum (fun q : Int × Hp => ZV g x 13 q.2 71 [(0, (2, l0)), (1, (0, l1)), (2, (0, l2)), (3, (0, l3)), (4, (0, l4)), (5, (0, l5)), (6, (0, l6)), (7, (0, q.1))] []) E y) : ZV g x 13 h 93 [(0, (2, l0)), (1, (0, l1)), (2, (0, l2)), (3, (0, l3)), (4, (0, l4)), (5, (0, l5)), (6, (0, l6)), (7, (0, l7))] [(0, s0)] := by
  unfold Ch_fillBranch_j93 at hf
  refine z_istore X dX2_fillBranch_93 (by decide) (ls' := [(8, (0, s0)), (0, (2, l0)), (1, (0, l1)), (2, (0, l2)), (3, (0, l3)), (4, (0, l4)), (5, (0, l5)), (6, (0, l6)), (7, (0, l7))]) rfl ?_
  refine z_iload_n X dX2_fillBranch_95 4 rfl ?_
  refine z_if_eq X dX2_fillBranch_96 rfl (fun hc96 => ?_) (fun hc96 => ?_)
  · rw [if_pos hc96] at hf
    refine z_iload X dX2_fillBranch_104 8 rfl ?_
    exact z_weak [1, 2, 3, 4, 5, 6, 7, 8, 0] rfl (z_Ch_fillBranch_j106 X hd l0 l1 l2 l3 l4 l5 l6 l7 s0 l7 h _ hf E hx0 hk)
  · rw [if_neg hc96] at hf
    refine z_iload X dX2_fillBranch_99 6 rfl ?_
    refine z_goto X dX2_fillBranch_101 rfl ?_
    exact z_weak [1, 2, 3, 4, 5, 6, 7, 8, 0] rfl (z_Ch_fillBranch_j106 X hd l0 l1 l2 l3 l4 l5 l6 l7 s0 l5 h _ hf E hx0 hk)
set_option maxHeartbeats 4000000 in
set_option maxRecDepth 100000 in
theorem z_Ch_fillBranch_L71 {g : GP} {x : CX} {d : Nat} (X : zX g x RX2 cX2_fillBranch 13 (d + 1)) (hd : 2 ≤ d) (l0 l1 l2 l3 l4 l5 l6 : Int)  (E : Hp → Prop) (hx0 : ∀ e : Hp, E (e) → ZV g x 13 e 231 [(0, (2, l0)), (1, (0, l1)), (2, (0, l2)), (3, (0, l3)), (4, (0, l4)), (5, (0, l5))] []) (l7 : Int) (h : Hp) (y : (Int × Hp) ⊕ (Hp)) (hf : Ch_fillBranch_L71 l0 l1 l2 l3 l4 l5 l6 l7 h = some y) (hk : z_sum (fun q : Int × Hp => ZV g x 13 q.2 71 [(0, (2, l0)), (1, (0, l1)), (2, (0, l2)), (3, (0, l3)), (4, (0, l4)), (5, (0, l5)), (6, (0, l6)), (7, (0, q.1))] []) E y) : ZV g x 13 h 71 [(0, (2, l0)), (1, (0, l1)), (2, (0, l2)), (3, (0, l3)), (4, (0, l4)), (5, (0, l5)), (6, (0, l6)), (7, (0, l7))] [] := by
  unfold Ch_fillBranch_L71 at hf
  refine z_iload X dX2_fillBranch_71 7 rfl ?_
  refine z_iload X dX2_fillBranch_73 6 rfl ?_
  refine z_icmp_gt X dX2_fillBranch_75 rfl (fun hc75 => ?_) (fun hc75 => ?_)
  · have hf := ift hc75 hf
    cases hf
    exact z_weak [0, 1, 2, 3, 4, 5] rfl (hx0 _ hk)
  · have hf := iff' hc75 hf
    refine z_iload_n X dX2_fillBranch_78 3 rfl ?_
    refine z_if_eq X dX2_fillBranch_79 rfl (fun hc79 => ?_) (fun hc79 => ?_)
    · rw [if_pos hc79] at hf
      refine z_iconst X dX2_fillBranch_92 kc_0 ?_
      exact (z_Ch_fillBranch_j93 X hd l0 l1 l2 l3 l4 l5 l6 l7 0 h _ hf E hx0 hk)
    · rw [if_neg hc79] at hf
      refine z_iload X dX2_fillBranch_82 7 rfl ?_
      refine z_iload X dX2_fillBranch_84 5 rfl ?_
      refine z_isub X dX2_fillBranch_86 ?_
      refine z_iload_n X dX2_fillBranch_87 2 rfl ?_
      refine z_isub X dX2_fillBranch_88 ?_
      refine z_goto X dX2_fillBranch_89 rfl ?_
      exact (z_Ch_fillBranch_j93 X hd l0 l1 l2 l3 l4 l5 l6 l7 (w32 ((w32 (l7 - l5)) - l2)) h _ hf E hx0 hk)
set_option maxHeartbeats 4000000 in
set_option maxRecDepth 100000 in
theorem z_Ch_fillBranch_j63 {g : GP} {x : CX} {d : Nat} (X : zX g x RX2 cX2_fillBranch 13 (d + 1)) (hd : 2 ≤ d) (l0 l1 l2 l3 l4 l5 s0 : Int) (h : Hp) (y : (Int × Hp) ⊕ (Hp)) (hf : Ch_fillBranch_j63 l0 l1 l2 l3 l4 l5 s0 h = some y) (E : Hp → Prop) (hx0 : ∀ e : Hp, E (e) → ZV g x 13 e 237 [] []) (hk : z_sum (fun q : Int × Hp => ZV g x 13 q.2 37 [(0, (2, l0)), (1, (0, l1)), (2, (0, l2)), (3, (0, l3)), (4, (0, l4)), (5, (0, q.1))] []) E y) : ZV g x 13 h 63 [(0, (2, l0)), (1, (0, l1)), (2, (0, l2)), (3, (0, l3)), (4, (0, l4)), (5, (0, l5))] [(0, s0)] := by
  unfold Ch_fillBranch_j63 at hf
  refine z_istore X dX2_fillBranch_63 (by decide) (ls' := [(6, (0, s0)), (0, (2, l0)), (1, (0, l1)), (2, (0, l2)), (3, (0, l3)), (4, (0, l4)), (5, (0, l5))]) rfl ?_
  refine z_iload X dX2_fillBranch_65 6 rfl ?_
  refine z_iload_n X dX2_fillBranch_67 3 rfl ?_
  refine z_iadd X dX2_fillBranch_68 ?_
  refine z_istore X dX2_fillBranch_69 (by decide) (ls' := [(7, (0, w32 (l5 + l2))), (6, (0, s0)), (0, (2, l0)), (1, (0, l1)), (2, (0, l2)), (3, (0, l3)), (4, (0, l4)), (5, (0, l5))]) rfl ?_
  obtain ⟨q71, hq71, hf⟩ := obE hf
  have hx71_0 : ∀ e231 : Hp, (e231 : Hp) = q71 → ZV g x 13 e231 231 [(0, (2, l0)), (1, (0, l1)), (2, (0, l2)), (3, (0, l3)), (4, (0, l4)), (5, (0, l5))] [] := by
    intro e231 hq
    subst hq
    refine z_iinc X dX2_fillBranch_231 5 rfl (by decide) (ls' := [(5, (0, w32 (l5 + 1))), (0, (2, l0)), (1, (0, l1)), (2, (0, l2)), (3, (0, l3)), (4, (0, l4))]) rfl ?_
    refine z_goto X dX2_fillBranch_234 rfl ?_
    cases hf
    exact z_weak [1, 2, 3, 4, 5, 0] rfl hk
  exact z_weak [2, 3, 4, 5, 6, 7, 1, 0] rfl (z_loop (Z := (fun q : Int × Hp => ZV g x 13 q.2 71 [(0, (2, l0)), (1, (0, l1)), (2, (0, l2)), (3, (0, l3)), (4, (0, l4)), (5, (0, l5)), (6, (0, s0)), (7, (0, q.1))] [])) (E := fun q => q = q71) (fun q y hb hk => z_Ch_fillBranch_L71 X hd l0 l1 l2 l3 l4 l5 s0 (fun q => q = q71) hx71_0 q.1 q.2 y hb hk) LN (w32 (l5 + l2), h) q71 hq71 rfl)
set_option maxHeartbeats 4000000 in
set_option maxRecDepth 100000 in
theorem z_Ch_fillBranch_L37 {g : GP} {x : CX} {d : Nat} (X : zX g x RX2 cX2_fillBranch 13 (d + 1)) (hd : 2 ≤ d) (l0 l1 l2 l3 l4 : Int)  (E : Hp → Prop) (hx0 : ∀ e : Hp, E (e) → ZV g x 13 e 237 [] []) (l5 : Int) (h : Hp) (y : (Int × Hp) ⊕ (Hp)) (hf : Ch_fillBranch_L37 l0 l1 l2 l3 l4 l5 h = some y) (hk : z_sum (fun q : Int × Hp => ZV g x 13 q.2 37 [(0, (2, l0)), (1, (0, l1)), (2, (0, l2)), (3, (0, l3)), (4, (0, l4)), (5, (0, q.1))] []) E y) : ZV g x 13 h 37 [(0, (2, l0)), (1, (0, l1)), (2, (0, l2)), (3, (0, l3)), (4, (0, l4)), (5, (0, l5))] [] := by
  unfold Ch_fillBranch_L37 at hf
  refine z_iload X dX2_fillBranch_37 5 rfl ?_
  refine z_iload_n X dX2_fillBranch_39 2 rfl ?_
  refine z_iadd X dX2_fillBranch_40 ?_
  refine z_aload_n X dX2_fillBranch_41 0 rfl ?_
  obtain ⟨g4, hf⟩ := gif hf
  refine y_get X fl_RX2_30 dX2_fillBranch_42 g4 ?_
  refine z_icmp_gt X dX2_fillBranch_45 rfl (fun hc45 => ?_) (fun hc45 => ?_)
  · have hf := ift hc45 hf
    cases hf
    exact z_weak [] rfl (hx0 _ hk)
  · have hf := iff' hc45 hf
    refine z_iload_n X dX2_fillBranch_48 3 rfl ?_
    refine z_if_eq X dX2_fillBranch_49 rfl (fun hc49 => ?_) (fun hc49 => ?_)
    · rw [if_pos hc49] at hf
      refine z_iload X dX2_fillBranch_59 5 rfl ?_
      refine z_iload_n X dX2_fillBranch_61 2 rfl ?_
      refine z_iadd X dX2_fillBranch_62 ?_
      exact (z_Ch_fillBranch_j63 X hd l0 l1 l2 l3 l4 l5 (w32 (l5 + l2)) h _ hf E hx0 hk)
    · rw [if_neg hc49] at hf
      refine z_aload_n X dX2_fillBranch_52 0 rfl ?_
      refine y_get X fl_RX2_30 dX2_fillBranch_53 g4 ?_
      refine z_goto X dX2_fillBranch_56 rfl ?_
      exact (z_Ch_fillBranch_j63 X hd l0 l1 l2 l3 l4 l5 (h l0 1) h _ hf E hx0 hk)
set_option maxHeartbeats 4000000 in
set_option maxRecDepth 100000 in
theorem z_Ch_fillBranch_j32 {g : GP} {x : CX} {d : Nat} (X : zX g x RX2 cX2_fillBranch 13 (d + 1)) (hd : 2 ≤ d) (l0 l1 l2 l3 s0 : Int) (h : Hp) (y : Hp) (hf : Ch_fillBranch_j32 l0 l1 l2 l3 s0 h = some y) (hK : zE g x none 0 0 157 y none) : ZV g x 13 h 32 [(0, (2, l0)), (1, (0, l1)), (2, (0, l2)), (3, (0, l3))] [(0, s0)] := by
  unfold Ch_fillBranch_j32 at hf
  refine z_istore X dX2_fillBranch_32 (by decide) (ls' := [(4, (0, s0)), (0, (2, l0)), (1, (0, l1)), (2, (0, l2)), (3, (0, l3))]) rfl ?_
  refine z_iconst X dX2_fillBranch_34 kc_0 ?_
  refine z_istore X dX2_fillBranch_35 (by decide) (ls' := [(5, (0, 0)), (4, (0, s0)), (0, (2, l0)), (1, (0, l1)), (2, (0, l2)), (3, (0, l3))]) rfl ?_
  obtain ⟨q37, hq37, hf⟩ := obE hf
  have hx37_0 : ∀ e237 : Hp, (e237 : Hp) = q37 → ZV g x 13 e237 237 [] [] := by
    intro e237 hq
    subst hq
    cases hf
    exact z_vret X hK dX2_fillBranch_237
  exact z_weak [2, 3, 4, 5, 1, 0] rfl (z_loop (Z := (fun q : Int × Hp => ZV g x 13 q.2 37 [(0, (2, l0)), (1, (0, l1)), (2, (0, l2)), (3, (0, l3)), (4, (0, s0)), (5, (0, q.1))] [])) (E := fun q => q = q37) (fun q y hb hk => z_Ch_fillBranch_L37 X hd l0 l1 l2 l3 s0 (fun q => q = q37) hx37_0 q.1 q.2 y hb hk) LN (0, h) q37 hq37 rfl)
set_option maxHeartbeats 4000000 in
set_option maxRecDepth 100000 in
theorem z_Ch_fillBranch_j31 {g : GP} {x : CX} {d : Nat} (X : zX g x RX2 cX2_fillBranch 13 (d + 1)) (hd : 2 ≤ d) (l0 l1 l2 l3 : Int) (h : Hp) (y : Hp) (hf : Ch_fillBranch_j31 l0 l1 l2 l3 h = some y) (hK : zE g x none 0 0 157 y none) : ZV g x 13 h 31 [(0, (2, l0)), (1, (0, l1)), (2, (0, l2)), (3, (0, l3))] [] := by
  unfold Ch_fillBranch_j31 at hf
  refine z_iconst X dX2_fillBranch_31 kc_0 ?_
  exact (z_Ch_fillBranch_j32 X hd l0 l1 l2 l3 0 h _ hf hK)
set_option maxHeartbeats 4000000 in
set_option maxRecDepth 100000 in
theorem c_Ch_fillBranch {l : Launch} {g : GP} (d : Nat) (hd : 3 ≤ d) (l0 l1 l2 : Int) (h : Hp) (y : Hp) (hf : Ch_fillBranch l0 l1 l2 h = some y) : zM l yX2_fillBranch cX2_fillBranch 13 none d 0 0 g 157 h [(2, l0), (0, l1), (0, l2)] 157 y none := by
  obtain ⟨d, rfl⟩ : ∃ k, d = k + 1 := ⟨d - 1, by omega⟩
  replace hd : 2 ≤ d := Nat.le_of_succ_le_succ hd
  refine z_start (by decide) (Nat.le_of_ble_eq_true rfl) (fun x X hK _ _ _ hl => ?_)
  show ZV g x 13 h 0 [(0, (2, l0)), (1, (0, l1)), (2, (0, l2))] []
  unfold Ch_fillBranch at hf
  refine z_aload_n X dX2_fillBranch_0 0 rfl ?_
  obtain ⟨g1, hf⟩ := gif hf
  refine y_get X fl_RX2_12 dX2_fillBranch_1 g1 ?_
  obtain ⟨g2, hf⟩ := gif hf
  refine y_get X fl_RX2_131 dX2_fillBranch_4 g2 ?_
  refine z_iload_n X dX2_fillBranch_7 1 rfl ?_
  obtain ⟨g3, hf⟩ := gif hf
  refine y_zald X dX2_fillBranch_8 g3 ?_
  refine z_istore_n X dX2_fillBranch_9 (by decide) (ls' := [(3, (0, h (h (h l0 0) 15) l1)), (0, (2, l0)), (1, (0, l1)), (2, (0, l2))]) rfl ?_
  refine z_iload_n X dX2_fillBranch_10 0 rfl ?_
  refine z_if_eq X dX2_fillBranch_11 rfl (fun hc11 => ?_) (fun hc11 => ?_)
  · have hf := ift hc11 hf
    exact z_weak [1, 2, 3, 0] rfl (z_Ch_fillBranch_j31 X hd l0 l1 l2 (h (h (h l0 0) 15) l1) h _ hf hK)
  · have hf := iff' hc11 hf
    refine z_aload_n X dX2_fillBranch_14 1 rfl ?_
    refine y_get X fl_RX2_12 dX2_fillBranch_15 g1 ?_
    refine y_get X fl_RX2_135 dX2_fillBranch_18 g2 ?_
    refine z_iload_n X dX2_fillBranch_21 2 rfl ?_
    obtain ⟨g8, hf⟩ := gif hf
    refine y_iald X dX2_fillBranch_22 g8 ?_
    refine z_iconst X dX2_fillBranch_23 kc_m1 ?_
    refine z_icmp_ne X dX2_fillBranch_24 rfl (fun hc24 => ?_) (fun hc24 => ?_)
    · have hf := iff' hc24 hf
      exact z_weak [1, 2, 3, 0] rfl (z_Ch_fillBranch_j31 X hd l0 l1 l2 (h (h (h l0 0) 15) l1) h _ hf hK)
    · have hf := ift hc24 hf
      refine z_iconst X dX2_fillBranch_27 kc_1 ?_
      refine z_goto X dX2_fillBranch_28 rfl ?_
      exact z_weak [1, 2, 3, 0] rfl (z_Ch_fillBranch_j32 X hd l0 l1 l2 (h (h (h l0 0) 15) l1) 1 h _ hf hK)
set_option maxHeartbeats 4000000 in
set_option maxRecDepth 100000 in
theorem z_Ch_hostsOver_j83 {g : GP} {x : CX} {d : Nat} (X : zX g x RX2 cX2_hostsOver 9 (d + 1)) (hd : 1 ≤ d) (l0 l1 l2 l3 l4 l6 : Int) (h : Hp) (y : (Int × Int) ⊕ (Int)) (hf : Ch_hostsOver_j83 l0 l1 l2 l3 l4 l6 h = some y) (E : Int → Prop) (hx0 : ∀ e : Int, E (e) → ZV g x 9 h 89 [(4, (1, e))] []) (hk : z_sum (fun q : Int × Int => ZV g x 9 h 6 [(0, (2, l0)), (1, (0, l1)), (2, (0, l2)), (3, (0, l3)), (4, (1, q.1)), (6, (0, q.2))] []) E y) : ZV g x 9 h 83 [(0, (2, l0)), (1, (0, l1)), (2, (0, l2)), (3, (0, l3)), (4, (1, l4)), (6, (0, l6))] [] := by
  unfold Ch_hostsOver_j83 at hf
  refine z_iinc X dX2_hostsOver_83 5 rfl (by decide) (ls' := [(6, (0, w32 (l6 + 1))), (0, (2, l0)), (1, (0, l1)), (2, (0, l2)), (3, (0, l3)), (4, (1, l4))]) rfl ?_
  refine z_goto X dX2_hostsOver_86 rfl ?_
  cases hf
  exact z_weak [1, 2, 3, 4, 5, 0] rfl hk
set_option maxHeartbeats 4000000 in
set_option maxRecDepth 100000 in
theorem z_Ch_hostsOver_j81 {g : GP} {x : CX} {d : Nat} (X : zX g x RX2 cX2_hostsOver 9 (d + 1)) (hd : 1 ≤ d) (l0 l1 l2 l3 l6 s0 : Int) (h : Hp) (y : (Int × Int) ⊕ (Int)) (hf : Ch_hostsOver_j81 l0 l1 l2 l3 l6 s0 h = some y) (E : Int → Prop) (hx0 : ∀ e : Int, E (e) → ZV g x 9 h 89 [(4, (1, e))] []) (hk : z_sum (fun q : Int × Int => ZV g x 9 h 6 [(0, (2, l0)), (1, (0, l1)), (2, (0, l2)), (3, (0, l3)), (4, (1, q.1)), (6, (0, q.2))] []) E y) : ZV g x 9 h 81 [(0, (2, l0)), (1, (0, l1)), (2, (0, l2)), (3, (0, l3)), (6, (0, l6))] [(1, s0)] := by
  unfold Ch_hostsOver_j81 at hf
  refine z_lstore X dX2_hostsOver_81 (by decide) (ls' := [(4, (1, s0)), (0, (2, l0)), (1, (0, l1)), (2, (0, l2)), (3, (0, l3)), (6, (0, l6))]) rfl ?_
  exact z_weak [1, 2, 3, 4, 0, 5] rfl (z_Ch_hostsOver_j83 X hd l0 l1 l2 l3 s0 l6 h _ hf E hx0 hk)
set_option maxHeartbeats 4000000 in
set_option maxRecDepth 100000 in
theorem z_Ch_hostsOver_L6 {g : GP} {x : CX} {d : Nat} (X : zX g x RX2 cX2_hostsOver 9 (d + 1)) (hd : 1 ≤ d) (l0 l1 l2 l3 : Int) (h : Hp) (E : Int → Prop) (hx0 : ∀ e : Int, E (e) → ZV g x 9 h 89 [(4, (1, e))] []) (l4 l6 : Int) (y : (Int × Int) ⊕ (Int)) (hf : Ch_hostsOver_L6 l0 l1 l2 l3 h l4 l6 = some y) (hk : z_sum (fun q : Int × Int => ZV g x 9 h 6 [(0, (2, l0)), (1, (0, l1)), (2, (0, l2)), (3, (0, l3)), (4, (1, q.1)), (6, (0, q.2))] []) E y) : ZV g x 9 h 6 [(0, (2, l0)), (1, (0, l1)), (2, (0, l2)), (3, (0, l3)), (4, (1, l4)), (6, (0, l6))] [] := by
  unfold Ch_hostsOver_L6 at hf
  refine z_iload X dX2_hostsOver_6 5 rfl ?_
  refine z_aload_n X dX2_hostsOver_8 0 rfl ?_
  obtain ⟨g1, hf⟩ := gif hf
  refine y_get X fl_RX2_12 dX2_hostsOver_9 g1 ?_
  obtain ⟨g2, hf⟩ := gif hf
  refine y_get X fl_RX2_94 dX2_hostsOver_12 g2 ?_
  refine z_icmp_ge X dX2_hostsOver_15 rfl (fun hc15 => ?_) (fun hc15 => ?_)
  · have hf := ift hc15 hf
    cases hf
    exact z_weak [4] rfl (hx0 _ hk)
  · have hf := iff' hc15 hf
    refine z_iload_n X dX2_hostsOver_18 1 rfl ?_
    refine z_iload X dX2_hostsOver_19 5 rfl ?_
    refine z_ishr X dX2_hostsOver_21 ?_
    refine z_iconst X dX2_hostsOver_22 kc_1 ?_
    refine z_iand X dX2_hostsOver_23 ?_
    refine z_iconst X dX2_hostsOver_24 kc_1 ?_
    refine z_icmp_ne X dX2_hostsOver_25 rfl (fun hc25 => ?_) (fun hc25 => ?_)
    · have hf := iff' hc25 hf
      exact (z_Ch_hostsOver_j83 X hd l0 l1 l2 l3 l4 l6 h _ hf E hx0 hk)
    · have hf := ift hc25 hf
      refine z_aload_n X dX2_hostsOver_28 0 rfl ?_
      refine z_aload_n X dX2_hostsOver_29 0 rfl ?_
      refine y_get X fl_RX2_12 dX2_hostsOver_30 g1 ?_
      refine y_get X fl_RX2_116 dX2_hostsOver_33 g2 ?_
      refine z_iload X dX2_hostsOver_36 5 rfl ?_
      obtain ⟨g3, hf⟩ := gif hf
      refine y_iald X dX2_hostsOver_38 g3 ?_
      refine z_iconst X dX2_hostsOver_39 kc_1 ?_
      refine z_iload_n X dX2_hostsOver_40 2 rfl ?_
      refine z_iload_n X dX2_hostsOver_41 3 rfl ?_
      refine z_iload_n X dX2_hostsOver_42 3 rfl ?_
      refine z_iload_n X dX2_hostsOver_43 3 rfl ?_
      obtain ⟨r44, hr44, hf⟩ := obE hf
      refine y_V1 X cv_RX2_119 dX2_hostsOver_44 g1 (c_Ch_value d (Nat.le_trans (by decide) hd) l0 (h (h (h l0 0) 6) l6) 1 l2 l3 l3 l3 h r44 hr44) (as := [(0, h (h (h l0 0) 6) l6), (0, 1), (0, l2), (0, l3), (0, l3), (0, l3)]) rfl rfl (Nat.le_of_ble_eq_true rfl) z00 ?_
      refine z_lstore X dX2_hostsOver_47 (by decide) (ls' := [(7, (1, r44)), (0, (2, l0)), (1, (0, l1)), (2, (0, l2)), (3, (0, l3)), (4, (1, l4)), (6, (0, l6))]) rfl ?_
      refine z_lload X dX2_hostsOver_49 0 rfl ?_
      refine z_lconst0 X dX2_hostsOver_51 ?_
      refine z_l_ne X dX2_hostsOver_52 dX2_hostsOver_53 rfl (fun hc52 => ?_) (fun hc52 => ?_)
      · have hf := iff' hc52 hf
        refine z_aload_n X dX2_hostsOver_61 1 rfl ?_
        refine y_get X fl_RX2_57 dX2_hostsOver_62 g1 ?_
        refine z_lload X dX2_hostsOver_65 5 rfl ?_
        refine z_aload_n X dX2_hostsOver_67 1 rfl ?_
        refine y_get X fl_RX2_57 dX2_hostsOver_68 g1 ?_
        refine z_iload X dX2_hostsOver_71 6 rfl ?_
        refine z_lload X dX2_hostsOver_73 0 rfl ?_
        obtain ⟨r75, hr75, hf⟩ := obE hf
        refine ya_RX2_123 X (Nat.le_trans (by decide) hd) dX2_hostsOver_75 (h l0 3) l6 r44 h r75 hr75 (Nat.le_of_ble_eq_true rfl) ?_
        obtain ⟨r78, hr78, hf⟩ := obE hf
        refine ya_RX2_127 X (Nat.le_trans (by decide) hd) dX2_hostsOver_78 (h l0 3) l4 r75 h r78 hr78 (Nat.le_of_ble_eq_true rfl) ?_
        exact z_weak [1, 2, 3, 4, 6] rfl (z_Ch_hostsOver_j81 X hd l0 l1 l2 l3 l6 r78 h _ hf E hx0 hk)
      · have hf := ift hc52 hf
        refine z_lload X dX2_hostsOver_56 5 rfl ?_
        refine z_goto X dX2_hostsOver_58 rfl ?_
        exact z_weak [1, 2, 3, 4, 6] rfl (z_Ch_hostsOver_j81 X hd l0 l1 l2 l3 l6 l4 h _ hf E hx0 hk)
set_option maxHeartbeats 4000000 in
set_option maxRecDepth 100000 in
theorem c_Ch_hostsOver {l : Launch} {g : GP} (d : Nat) (hd : 2 ≤ d) (l0 l1 l2 l3 : Int) (h : Hp) (y : Int) (hf : Ch_hostsOver l0 l1 l2 l3 h = some y) : zM l yX2_hostsOver cX2_hostsOver 9 (some .long) d 0 0 g 157 h [(2, l0), (0, l1), (0, l2), (0, l3)] 157 h (some (1, y)) := by
  obtain ⟨d, rfl⟩ : ∃ k, d = k + 1 := ⟨d - 1, by omega⟩
  replace hd : 1 ≤ d := Nat.le_of_succ_le_succ hd
  refine z_start (by decide) (Nat.le_of_ble_eq_true rfl) (fun x X hK _ _ _ hl => ?_)
  show ZV g x 9 h 0 [(0, (2, l0)), (1, (0, l1)), (2, (0, l2)), (3, (0, l3))] []
  unfold Ch_hostsOver at hf
  refine z_lconst0 X dX2_hostsOver_0 ?_
  refine z_lstore X dX2_hostsOver_1 (by decide) (ls' := [(4, (1, 0)), (0, (2, l0)), (1, (0, l1)), (2, (0, l2)), (3, (0, l3))]) rfl ?_
  refine z_iconst X dX2_hostsOver_3 kc_0 ?_
  refine z_istore X dX2_hostsOver_4 (by decide) (ls' := [(6, (0, 0)), (4, (1, 0)), (0, (2, l0)), (1, (0, l1)), (2, (0, l2)), (3, (0, l3))]) rfl ?_
  obtain ⟨q6, hq6, hf⟩ := obE hf
  have hx6_0 : ∀ e89 : Int, (e89 : Int) = q6 → ZV g x 9 h 89 [(4, (1, e89))] [] := by
    intro e89 hq
    subst hq
    refine z_lload X dX2_hostsOver_89 0 rfl ?_
    cases hf
    exact z_lret X hK dX2_hostsOver_91
  exact z_weak [2, 3, 4, 5, 1, 0] rfl (z_loop (Z := (fun q : Int × Int => ZV g x 9 h 6 [(0, (2, l0)), (1, (0, l1)), (2, (0, l2)), (3, (0, l3)), (4, (1, q.1)), (6, (0, q.2))] [])) (E := fun q => q = q6) (fun q y hb hk => z_Ch_hostsOver_L6 X hd l0 l1 l2 l3 h (fun q => q = q6) hx6_0 q.1 q.2 y hb hk) LN (0, 0) q6 hq6 rfl)
set_option maxHeartbeats 4000000 in
set_option maxRecDepth 100000 in
theorem z_Ch_fillPlace_L29 {g : GP} {x : CX} {d : Nat} (X : zX g x RX2 cX2_fillPlace 7 (d + 1)) (hd : 2 ≤ d) (l0 l2 l3 l4 : Int)  (E : Hp → Prop) (hx0 : ∀ e : Hp, E (e) → ZV g x 7 e 80 [] []) (l5 : Int) (h : Hp) (y : (Int × Hp) ⊕ (Hp)) (hf : Ch_fillPlace_L29 l0 l2 l3 l4 l5 h = some y) (hk : z_sum (fun q : Int × Hp => ZV g x 7 q.2 29 [(0, (2, l0)), (2, (0, l2)), (3, (0, l3)), (4, (0, l4)), (5, (0, q.1))] []) E y) : ZV g x 7 h 29 [(0, (2, l0)), (2, (0, l2)), (3, (0, l3)), (4, (0, l4)), (5, (0, l5))] [] := by
  unfold Ch_fillPlace_L29 at hf
  refine z_iload X dX2_fillPlace_29 4 rfl ?_
  refine z_iload_n X dX2_fillPlace_31 1 rfl ?_
  refine z_iadd X dX2_fillPlace_32 ?_
  refine z_aload_n X dX2_fillPlace_33 0 rfl ?_
  obtain ⟨g5, hf⟩ := gif hf
  refine y_get X fl_RX2_30 dX2_fillPlace_34 g5 ?_
  refine z_icmp_gt X dX2_fillPlace_37 rfl (fun hc37 => ?_) (fun hc37 => ?_)
  · have hf := ift hc37 hf
    cases hf
    exact z_weak [] rfl (hx0 _ hk)
  · have hf := iff' hc37 hf
    refine z_iload X dX2_fillPlace_40 4 rfl ?_
    refine z_iload_n X dX2_fillPlace_42 1 rfl ?_
    refine z_iadd X dX2_fillPlace_43 ?_
    refine z_istore X dX2_fillPlace_44 (by decide) (ls' := [(6, (0, w32 (l5 + l2))), (0, (2, l0)), (2, (0, l2)), (3, (0, l3)), (4, (0, l4)), (5, (0, l5))]) rfl ?_
    refine z_aload_n X dX2_fillPlace_46 1 rfl ?_
    refine y_get X fl_RX2_19 dX2_fillPlace_47 g5 ?_
    refine z_iload_n X dX2_fillPlace_50 3 rfl ?_
    refine z_iload X dX2_fillPlace_51 5 rfl ?_
    refine z_iload X dX2_fillPlace_53 0 rfl ?_
    refine z_iload X dX2_fillPlace_55 0 rfl ?_
    refine z_iload X dX2_fillPlace_57 0 rfl ?_
    obtain ⟨r59, hr59, hf⟩ := obE hf
    refine y_S1 X cs_RX2_37 dX2_fillPlace_59 (c_Ch_cell d (Nat.zero_le _) l5 (w32 (l5 + l2)) (w32 (l5 + l2)) (w32 (l5 + l2)) h r59 hr59) (as := [(0, l5), (0, w32 (l5 + l2)), (0, w32 (l5 + l2)), (0, w32 (l5 + l2))]) rfl rfl (Nat.le_of_ble_eq_true rfl) z00 ?_
    refine z_iadd X dX2_fillPlace_62 ?_
    refine z_aload_n X dX2_fillPlace_63 1 rfl ?_
    refine z_iload X dX2_fillPlace_64 4 rfl ?_
    refine z_iload X dX2_fillPlace_66 5 rfl ?_
    refine z_iload X dX2_fillPlace_68 0 rfl ?_
    obtain ⟨r70, hr70, hf⟩ := obE hf
    refine y_V1 X cv_RX2_112 dX2_fillPlace_70 g5 (c_Ch_hostsOver d (Nat.le_trans (by decide) hd) l0 l4 l5 (w32 (l5 + l2)) h r70 hr70) (as := [(0, l4), (0, l5), (0, w32 (l5 + l2))]) rfl rfl (Nat.le_of_ble_eq_true rfl) z00 ?_
    obtain ⟨g6, hf⟩ := gif hf
    refine y_last X dX2_fillPlace_73 g6 ?_
    let h_1 : Hp := hput h (h l0 4) (w32 (l3 + r59)) r70
    refine z_iinc X dX2_fillPlace_74 5 rfl (by decide) (ls' := [(5, (0, w32 (l5 + 1))), (6, (0, w32 (l5 + l2))), (0, (2, l0)), (2, (0, l2)), (3, (0, l3)), (4, (0, l4))]) rfl ?_
    refine z_goto X dX2_fillPlace_77 rfl ?_
    cases hf
    exact z_weak [2, 3, 4, 5, 0] rfl hk
set_option maxHeartbeats 4000000 in
set_option maxRecDepth 100000 in
theorem c_Ch_fillPlace {l : Launch} {g : GP} (d : Nat) (hd : 3 ≤ d) (l0 l1 l2 : Int) (h : Hp) (y : Hp) (hf : Ch_fillPlace l0 l1 l2 h = some y) : zM l yX2_fillPlace cX2_fillPlace 7 none d 0 0 g 157 h [(2, l0), (0, l1), (0, l2)] 157 y none := by
  obtain ⟨d, rfl⟩ : ∃ k, d = k + 1 := ⟨d - 1, by omega⟩
  replace hd : 2 ≤ d := Nat.le_of_succ_le_succ hd
  refine z_start (by decide) (Nat.le_of_ble_eq_true rfl) (fun x X hK _ _ _ hl => ?_)
  show ZV g x 7 h 0 [(0, (2, l0)), (1, (0, l1)), (2, (0, l2))] []
  unfold Ch_fillPlace at hf
  refine z_aload_n X dX2_fillPlace_0 0 rfl ?_
  refine z_iload_n X dX2_fillPlace_1 1 rfl ?_
  refine z_iconst X dX2_fillPlace_2 kc_1 ?_
  obtain ⟨g1, hf⟩ := gif hf
  obtain ⟨r3, hr3, hf⟩ := obE hf
  refine y_V1 X cv_RX2_33 dX2_fillPlace_3 g1 (c_Ch_row d (Nat.zero_le _) l0 l1 1 h r3 hr3) (as := [(0, l1), (0, 1)]) rfl rfl (Nat.le_of_ble_eq_true rfl) z00 ?_
  refine z_istore_n X dX2_fillPlace_6 (by decide) (ls' := [(3, (0, r3)), (0, (2, l0)), (1, (0, l1)), (2, (0, l2))]) rfl ?_
  refine z_aload_n X dX2_fillPlace_7 1 rfl ?_
  refine y_get X fl_RX2_12 dX2_fillPlace_8 g1 ?_
  obtain ⟨g2, hf⟩ := gif hf
  refine y_get X fl_RX2_109 dX2_fillPlace_11 g2 ?_
  refine z_aload_n X dX2_fillPlace_14 1 rfl ?_
  refine y_get X fl_RX2_12 dX2_fillPlace_15 g1 ?_
  refine y_get X fl_RX2_102 dX2_fillPlace_18 g2 ?_
  refine z_iload_n X dX2_fillPlace_21 2 rfl ?_
  obtain ⟨g3, hf⟩ := gif hf
  refine y_iald X dX2_fillPlace_22 g3 ?_
  obtain ⟨g4, hf⟩ := gif hf
  refine y_iald X dX2_fillPlace_23 g4 ?_
  refine z_istore X dX2_fillPlace_24 (by decide) (ls' := [(4, (0, h (h (h l0 0) 17) (h (h (h l0 0) 9) l1))), (3, (0, r3)), (0, (2, l0)), (1, (0, l1)), (2, (0, l2))]) rfl ?_
  refine z_iconst X dX2_fillPlace_26 kc_0 ?_
  refine z_istore X dX2_fillPlace_27 (by decide) (ls' := [(5, (0, 0)), (4, (0, h (h (h l0 0) 17) (h (h (h l0 0) 9) l1))), (3, (0, r3)), (0, (2, l0)), (1, (0, l1)), (2, (0, l2))]) rfl ?_
  obtain ⟨q29, hq29, hf⟩ := obE hf
  have hx29_0 : ∀ e80 : Hp, (e80 : Hp) = q29 → ZV g x 7 e80 80 [] [] := by
    intro e80 hq
    subst hq
    cases hf
    exact z_vret X hK dX2_fillPlace_80
  exact z_weak [3, 5, 2, 1, 0] rfl (z_loop (Z := (fun q : Int × Hp => ZV g x 7 q.2 29 [(0, (2, l0)), (2, (0, l2)), (3, (0, r3)), (4, (0, h (h (h l0 0) 17) (h (h (h l0 0) 9) l1))), (5, (0, q.1))] [])) (E := fun q => q = q29) (fun q y hb hk => z_Ch_fillPlace_L29 X hd l0 l2 r3 (h (h (h l0 0) 17) (h (h (h l0 0) 9) l1)) (fun q => q = q29) hx29_0 q.1 q.2 y hb hk) LN (0, h) q29 hq29 rfl)
set_option maxHeartbeats 4000000 in
set_option maxRecDepth 100000 in
theorem c_Co_letterAt {l : Launch} {g : GP} (d : Nat) (hd : 1 ≤ d) (l0 l1 l2 : Int) (h : Hp) (y : Int) (hf : Co_letterAt l0 l1 l2 h = some y) : zM l yX3_letterAt cX3_letterAt 3 (some .long) d 0 0 g 157 h [(2, l0), (0, l1), (0, l2)] 157 h (some (1, y)) := by
  obtain ⟨d, rfl⟩ : ∃ k, d = k + 1 := ⟨d - 1, by omega⟩
  replace hd : 0 ≤ d := Nat.le_of_succ_le_succ hd
  refine z_start (by decide) (Nat.le_of_ble_eq_true rfl) (fun x X hK _ _ _ hl => ?_)
  show ZV g x 3 h 0 [(0, (2, l0)), (1, (0, l1)), (2, (0, l2))] []
  unfold Co_letterAt at hf
  refine z_aload_n X dX3_letterAt_0 0 rfl ?_
  obtain ⟨g1, hf⟩ := gif hf
  refine y_get X fl_RX3_9 dX3_letterAt_1 g1 ?_
  refine z_iload_n X dX3_letterAt_4 1 rfl ?_
  obtain ⟨g2, hf⟩ := gif hf
  obtain ⟨r5, hr5, hf⟩ := obE hf
  refine y_V1 X cv_RX3_17 dX3_letterAt_5 g2 (c_By_at d (Nat.zero_le _) (h l0 0) l1 h r5 hr5) (as := [(0, l1)]) rfl rfl (Nat.le_of_ble_eq_true rfl) z00 ?_
  refine z_iload_n X dX3_letterAt_8 2 rfl ?_
  refine z_icmp_ne X dX3_letterAt_9 rfl (fun hc9 => ?_) (fun hc9 => ?_)
  · rw [if_neg hc9] at hf
    refine z_lconst0 X dX3_letterAt_16 ?_
    cases hf
    exact z_lret X hK dX3_letterAt_17
  · rw [if_pos hc9] at hf
    refine z_lconst1 X dX3_letterAt_12 ?_
    refine z_goto X dX3_letterAt_13 rfl ?_
    cases hf
    exact z_lret X hK dX3_letterAt_17
set_option maxHeartbeats 4000000 in
set_option maxRecDepth 100000 in
theorem c_Co_one {l : Launch} {g : GP} (d : Nat) (hd : 0 ≤ d) (l0 : Int) (h : Hp) (y : Int) (hf : Co_one l0 = some y) : zM l yX3_one cX3_one 1 (some .long) d 0 0 g 157 h [(2, l0)] 157 h (some (1, y)) := by
  refine z_start (by decide) (Nat.le_of_ble_eq_true rfl) (fun x X hK _ _ _ hl => ?_)
  show ZV g x 1 h 0 [(0, (2, l0))] []
  unfold Co_one at hf
  refine z_lconst1 X dX3_one_0 ?_
  cases hf
  exact z_lret X hK dX3_one_1
set_option maxHeartbeats 4000000 in
set_option maxRecDepth 100000 in
theorem c_Ms_letterAt {l : Launch} {g : GP} (d : Nat) (hd : 0 ≤ d) (l0 l1 l2 : Int) (h : Hp) (y : Int) (hf : Ms_letterAt l0 l1 l2 h = some y) : zM l yX6_letterAt cX6_letterAt 4 (some .long) d 0 0 g 157 h [(2, l0), (0, l1), (0, l2)] 157 h (some (1, y)) := by
  refine z_start (by decide) (Nat.le_of_ble_eq_true rfl) (fun x X hK _ _ _ hl => ?_)
  show ZV g x 4 h 0 [(0, (2, l0)), (1, (0, l1)), (2, (0, l2))] []
  unfold Ms_letterAt at hf
  refine z_iload_n X dX6_letterAt_0 1 rfl ?_
  refine z_bipush X dX6_letterAt_1 kb_26 kc_26 ?_
  refine z_imul X dX6_letterAt_3 ?_
  refine z_iload_n X dX6_letterAt_4 2 rfl ?_
  refine z_iadd X dX6_letterAt_5 ?_
  refine z_istore_n X dX6_letterAt_6 (by decide) (ls' := [(3, (0, w32 ((w32 (l1 * 26)) + l2))), (0, (2, l0)), (1, (0, l1)), (2, (0, l2))]) rfl ?_
  refine z_iload_n X dX6_letterAt_7 0 rfl ?_
  refine z_if_lt X dX6_letterAt_8 rfl (fun hc8 => ?_) (fun hc8 => ?_)
  · have hf := ift hc8 hf
    refine z_lconst0 X dX6_letterAt_20 ?_
    refine z_goto X dX6_letterAt_21 rfl ?_
    cases hf
    exact z_lret X hK dX6_letterAt_30
  · have hf := iff' hc8 hf
    refine z_iload_n X dX6_letterAt_11 0 rfl ?_
    refine z_aload_n X dX6_letterAt_12 1 rfl ?_
    obtain ⟨g1, hf⟩ := gif hf
    refine y_get X fl_RX6_15 dX6_letterAt_13 g1 ?_
    obtain ⟨g2, hf⟩ := gif hf
    refine y_alen X dX6_letterAt_16 (by omega) ?_
    refine z_icmp_lt X dX6_letterAt_17 rfl (fun hc17 => ?_) (fun hc17 => ?_)
    · have hf := ift hc17 hf
      refine z_aload_n X dX6_letterAt_24 1 rfl ?_
      refine y_get X fl_RX6_15 dX6_letterAt_25 g1 ?_
      refine z_iload_n X dX6_letterAt_28 0 rfl ?_
      obtain ⟨g3, hf⟩ := gif hf
      refine y_lald X dX6_letterAt_29 g3 ?_
      cases hf
      exact z_lret X hK dX6_letterAt_30
    · have hf := iff' hc17 hf
      refine z_lconst0 X dX6_letterAt_20 ?_
      refine z_goto X dX6_letterAt_21 rfl ?_
      cases hf
      exact z_lret X hK dX6_letterAt_30
set_option maxHeartbeats 4000000 in
set_option maxRecDepth 100000 in
theorem c_Ms_one {l : Launch} {g : GP} (d : Nat) (hd : 0 ≤ d) (l0 : Int) (h : Hp) (y : Int) (hf : Ms_one l0 h = some y) : zM l yX6_one cX6_one 1 (some .long) d 0 0 g 157 h [(2, l0)] 157 h (some (1, y)) := by
  refine z_start (by decide) (Nat.le_of_ble_eq_true rfl) (fun x X hK _ _ _ hl => ?_)
  show ZV g x 1 h 0 [(0, (2, l0))] []
  unfold Ms_one at hf
  refine z_aload_n X dX6_one_0 0 rfl ?_
  obtain ⟨g1, hf⟩ := gif hf
  refine y_get X fl_RX6_19 dX6_one_1 g1 ?_
  refine z_bipush X dX6_one_4 kb_64 kc_64 ?_
  refine z_icmp_lt X dX6_one_6 rfl (fun hc6 => ?_) (fun hc6 => ?_)
  · rw [if_pos hc6] at hf
    refine z_lconst1 X dX6_one_15 ?_
    refine z_aload_n X dX6_one_16 0 rfl ?_
    refine y_get X fl_RX6_19 dX6_one_17 g1 ?_
    refine z_lshl X dX6_one_20 ?_
    refine z_lconst1 X dX6_one_21 ?_
    refine z_lsub X dX6_one_22 ?_
    cases hf
    exact z_lret X hK dX6_one_23
  · rw [if_neg hc6] at hf
    refine z_ldc2 X kj_RX6_50 kl_m1 dX6_one_9 ?_
    refine z_goto X dX6_one_12 rfl ?_
    cases hf
    exact z_lret X hK dX6_one_23
set_option maxHeartbeats 4000000 in
set_option maxRecDepth 100000 in
theorem c_Su_letterAt {l : Launch} {g : GP} (d : Nat) (hd : 1 ≤ d) (l0 l1 l2 : Int) (h : Hp) (y : Int) (hf : Su_letterAt l0 l1 l2 h = some y) : zM l yX8_letterAt cX8_letterAt 3 (some .long) d 0 0 g 157 h [(2, l0), (0, l1), (0, l2)] 157 h (some (1, y)) := by
  obtain ⟨d, rfl⟩ : ∃ k, d = k + 1 := ⟨d - 1, by omega⟩
  replace hd : 0 ≤ d := Nat.le_of_succ_le_succ hd
  refine z_start (by decide) (Nat.le_of_ble_eq_true rfl) (fun x X hK _ _ _ hl => ?_)
  show ZV g x 3 h 0 [(0, (2, l0)), (1, (0, l1)), (2, (0, l2))] []
  unfold Su_letterAt at hf
  refine z_aload_n X dX8_letterAt_0 0 rfl ?_
  obtain ⟨g1, hf⟩ := gif hf
  refine y_get X fl_RX8_7 dX8_letterAt_1 g1 ?_
  refine z_iload_n X dX8_letterAt_4 1 rfl ?_
  obtain ⟨g2, hf⟩ := gif hf
  obtain ⟨r5, hr5, hf⟩ := obE hf
  refine y_V1 X cv_RX8_45 dX8_letterAt_5 g2 (c_By_at d (Nat.zero_le _) (h l0 0) l1 h r5 hr5) (as := [(0, l1)]) rfl rfl (Nat.le_of_ble_eq_true rfl) z00 ?_
  refine z_iload_n X dX8_letterAt_8 2 rfl ?_
  refine z_icmp_ne X dX8_letterAt_9 rfl (fun hc9 => ?_) (fun hc9 => ?_)
  · rw [if_neg hc9] at hf
    refine z_lconst0 X dX8_letterAt_18 ?_
    cases hf
    exact z_lret X hK dX8_letterAt_19
  · rw [if_pos hc9] at hf
    refine z_ldc2 X kj_RX8_15 kl_4294967296 dX8_letterAt_12 ?_
    refine z_goto X dX8_letterAt_15 rfl ?_
    cases hf
    exact z_lret X hK dX8_letterAt_19
set_option maxHeartbeats 4000000 in
set_option maxRecDepth 100000 in
theorem c_Su_one {l : Launch} {g : GP} (d : Nat) (hd : 0 ≤ d) (l0 : Int) (h : Hp) (y : Int) (hf : Su_one l0 = some y) : zM l yX8_one cX8_one 1 (some .long) d 0 0 g 157 h [(2, l0)] 157 h (some (1, y)) := by
  refine z_start (by decide) (Nat.le_of_ble_eq_true rfl) (fun x X hK _ _ _ hl => ?_)
  show ZV g x 1 h 0 [(0, (2, l0))] []
  unfold Su_one at hf
  refine z_ldc2 X kj_RX8_15 kl_4294967296 dX8_one_0 ?_
  cases hf
  exact z_lret X hK dX8_one_3
set_option maxHeartbeats 4000000 in
set_option maxRecDepth 100000 in
theorem ya_RX2_105 {g : GP} {x : CX} {cc : ByteArray} {nL d pc : Nat} {ls : List (Nat × TV)} {rest : List TV} (X : zX g x RX2 cc nL (d + 1)) (hd : 1 ≤ d) (hdc : decode cc pc = .ok (.invokevirtual 105, 3)) (l0 l1 l2 : Int) (h : Hp) (r : Int) (hr : Al_letterAt l0 l1 l2 h = some r) (hw : z_wd rest ≤ 8) (k : ZV g x nL h (pc + 3) ls ((1, r) :: rest)) : ZV g x nL h pc ls ((0, l2) :: (0, l1) :: (2, l0) :: rest) := by
  unfold Al_letterAt at hr
  by_cases h2 : kK l0 = 2
  · rw [if_pos h2] at hr
    exact y_A1 X ca_RX2_105_2 hdc h2 (c_Co_letterAt d (Nat.le_trans (by decide) hd) l0 l1 l2 h r hr) (as := [(0, l1), (0, l2)]) rfl rfl hw z00 k
  rw [if_neg h2] at hr
  by_cases h7 : kK l0 = 7
  · rw [if_pos h7] at hr
    exact y_A1 X ca_RX2_105_7 hdc h7 (c_Su_letterAt d (Nat.le_trans (by decide) hd) l0 l1 l2 h r hr) (as := [(0, l1), (0, l2)]) rfl rfl hw z00 k
  rw [if_neg h7] at hr
  by_cases h5 : kK l0 = 5
  · rw [if_pos h5] at hr
    exact y_A1 X ca_RX2_105_5 hdc h5 (c_Ms_letterAt d (Nat.le_trans (by decide) hd) l0 l1 l2 h r hr) (as := [(0, l1), (0, l2)]) rfl rfl hw z00 k
  rw [if_neg h5] at hr
  cases hr
set_option maxHeartbeats 4000000 in
set_option maxRecDepth 100000 in
theorem ya_RX2_96 {g : GP} {x : CX} {cc : ByteArray} {nL d pc : Nat} {ls : List (Nat × TV)} {rest : List TV} (X : zX g x RX2 cc nL (d + 1)) (hd : 0 ≤ d) (hdc : decode cc pc = .ok (.invokevirtual 96, 3)) (l0 : Int) (h : Hp) (r : Int) (hr : Al_one l0 h = some r) (hw : z_wd rest ≤ 8) (k : ZV g x nL h (pc + 3) ls ((1, r) :: rest)) : ZV g x nL h pc ls ((2, l0) :: rest) := by
  unfold Al_one at hr
  by_cases h2 : kK l0 = 2
  · rw [if_pos h2] at hr
    exact y_A1 X ca_RX2_96_2 hdc h2 (c_Co_one d (Nat.le_trans (by decide) hd) l0 h r hr) (as := []) rfl rfl hw z00 k
  rw [if_neg h2] at hr
  by_cases h7 : kK l0 = 7
  · rw [if_pos h7] at hr
    exact y_A1 X ca_RX2_96_7 hdc h7 (c_Su_one d (Nat.le_trans (by decide) hd) l0 h r hr) (as := []) rfl rfl hw z00 k
  rw [if_neg h7] at hr
  by_cases h5 : kK l0 = 5
  · rw [if_pos h5] at hr
    exact y_A1 X ca_RX2_96_5 hdc h5 (c_Ms_one d (Nat.le_trans (by decide) hd) l0 h r hr) (as := []) rfl rfl hw z00 k
  rw [if_neg h5] at hr
  cases hr
set_option maxHeartbeats 4000000 in
set_option maxRecDepth 100000 in
theorem z_Ch_fillSign_j158 {g : GP} {x : CX} {d : Nat} (X : zX g x RX2 cX2_fillSign 5 (d + 1)) (hd : 1 ≤ d) (l0 l1 l2 l3 : Int) (h : Hp) (y : (Int × Hp) ⊕ (Hp)) (hf : Ch_fillSign_j158 l0 l1 l2 l3 h = some y) (E : Hp → Prop) (hx0 : ∀ e : Hp, E (e) → ZV g x 5 e 164 [] []) (hk : z_sum (fun q : Int × Hp => ZV g x 5 q.2 9 [(0, (2, l0)), (1, (0, l1)), (2, (0, l2)), (3, (0, q.1))] []) E y) : ZV g x 5 h 158 [(0, (2, l0)), (1, (0, l1)), (2, (0, l2)), (3, (0, l3))] [] := by
  unfold Ch_fillSign_j158 at hf
  refine z_iinc X dX2_fillSign_158 3 rfl (by decide) (ls' := [(3, (0, w32 (l3 + 1))), (0, (2, l0)), (1, (0, l1)), (2, (0, l2))]) rfl ?_
  refine z_goto X dX2_fillSign_161 rfl ?_
  cases hf
  exact z_weak [1, 2, 3, 0] rfl hk
set_option maxHeartbeats 4000000 in
set_option maxRecDepth 100000 in
theorem z_Ch_fillSign_L70 {g : GP} {x : CX} {d : Nat} (X : zX g x RX2 cX2_fillSign 5 (d + 1)) (hd : 1 ≤ d) (l0 l1 l2 l3 : Int)  (E : Hp → Prop) (hx0 : ∀ e : Hp, E (e) → ZV g x 5 e 108 [(0, (2, l0)), (1, (0, l1)), (2, (0, l2)), (3, (0, l3))] []) (l4 : Int) (h : Hp) (y : (Int × Hp) ⊕ (Hp)) (hf : Ch_fillSign_L70 l0 l1 l2 l3 l4 h = some y) (hk : z_sum (fun q : Int × Hp => ZV g x 5 q.2 70 [(0, (2, l0)), (1, (0, l1)), (2, (0, l2)), (3, (0, l3)), (4, (0, q.1))] []) E y) : ZV g x 5 h 70 [(0, (2, l0)), (1, (0, l1)), (2, (0, l2)), (3, (0, l3)), (4, (0, l4))] [] := by
  unfold Ch_fillSign_L70 at hf
  refine z_iload X dX2_fillSign_70 4 rfl ?_
  refine z_aload_n X dX2_fillSign_72 0 rfl ?_
  obtain ⟨g7, hf⟩ := gif hf
  refine y_get X fl_RX2_30 dX2_fillSign_73 g7 ?_
  refine z_icmp_gt X dX2_fillSign_76 rfl (fun hc76 => ?_) (fun hc76 => ?_)
  · have hf := ift hc76 hf
    cases hf
    exact z_weak [0, 1, 2, 3] rfl (hx0 _ hk)
  · have hf := iff' hc76 hf
    refine z_aload_n X dX2_fillSign_79 0 rfl ?_
    refine y_get X fl_RX2_19 dX2_fillSign_80 g7 ?_
    refine z_iload_n X dX2_fillSign_83 2 rfl ?_
    refine z_iload_n X dX2_fillSign_84 3 rfl ?_
    refine z_iload X dX2_fillSign_85 4 rfl ?_
    refine z_iload_n X dX2_fillSign_87 3 rfl ?_
    refine z_iload X dX2_fillSign_88 4 rfl ?_
    obtain ⟨r90, hr90, hf⟩ := obE hf
    refine y_S1 X cs_RX2_37 dX2_fillSign_90 (c_Ch_cell d (Nat.zero_le _) l3 l4 l3 l4 h r90 hr90) (as := [(0, l3), (0, l4), (0, l3), (0, l4)]) rfl rfl (Nat.le_of_ble_eq_true rfl) z00 ?_
    refine z_iadd X dX2_fillSign_93 ?_
    refine z_aload_n X dX2_fillSign_94 0 rfl ?_
    refine y_get X fl_RX2_57 dX2_fillSign_95 g7 ?_
    obtain ⟨r98, hr98, hf⟩ := obE hf
    refine ya_RX2_96 X (Nat.le_trans (by decide) hd) dX2_fillSign_98 (h l0 3) h r98 hr98 (Nat.le_of_ble_eq_true rfl) ?_
    obtain ⟨g8, hf⟩ := gif hf
    refine y_last X dX2_fillSign_101 g8 ?_
    let h_2 : Hp := hput h (h l0 4) (w32 (l2 + r90)) r98
    refine z_iinc X dX2_fillSign_102 4 rfl (by decide) (ls' := [(4, (0, w32 (l4 + 1))), (0, (2, l0)), (1, (0, l1)), (2, (0, l2)), (3, (0, l3))]) rfl ?_
    refine z_goto X dX2_fillSign_105 rfl ?_
    cases hf
    exact z_weak [1, 2, 3, 4, 0] rfl hk
set_option maxHeartbeats 4000000 in
set_option maxRecDepth 100000 in
theorem z_Ch_fillSign_L9 {g : GP} {x : CX} {d : Nat} (X : zX g x RX2 cX2_fillSign 5 (d + 1)) (hd : 1 ≤ d) (l0 l1 l2 : Int)  (E : Hp → Prop) (hx0 : ∀ e : Hp, E (e) → ZV g x 5 e 164 [] []) (l3 : Int) (h : Hp) (y : (Int × Hp) ⊕ (Hp)) (hf : Ch_fillSign_L9 l0 l1 l2 l3 h = some y) (hk : z_sum (fun q : Int × Hp => ZV g x 5 q.2 9 [(0, (2, l0)), (1, (0, l1)), (2, (0, l2)), (3, (0, q.1))] []) E y) : ZV g x 5 h 9 [(0, (2, l0)), (1, (0, l1)), (2, (0, l2)), (3, (0, l3))] [] := by
  unfold Ch_fillSign_L9 at hf
  refine z_iload_n X dX2_fillSign_9 3 rfl ?_
  refine z_aload_n X dX2_fillSign_10 0 rfl ?_
  obtain ⟨g2, hf⟩ := gif hf
  refine y_get X fl_RX2_30 dX2_fillSign_11 g2 ?_
  refine z_icmp_gt X dX2_fillSign_14 rfl (fun hc14 => ?_) (fun hc14 => ?_)
  · have hf := ift hc14 hf
    cases hf
    exact z_weak [] rfl (hx0 _ hk)
  · have hf := iff' hc14 hf
    refine z_aload_n X dX2_fillSign_17 0 rfl ?_
    refine y_get X fl_RX2_12 dX2_fillSign_18 g2 ?_
    obtain ⟨g3, hf⟩ := gif hf
    refine y_get X fl_RX2_41 dX2_fillSign_21 g3 ?_
    refine z_iload_n X dX2_fillSign_24 1 rfl ?_
    obtain ⟨g4, hf⟩ := gif hf
    refine y_iald X dX2_fillSign_25 g4 ?_
    refine z_iconst X dX2_fillSign_26 kc_2 ?_
    refine z_icmp_ne X dX2_fillSign_27 rfl (fun hc27 => ?_) (fun hc27 => ?_)
    · have hf := iff' hc27 hf
      refine z_aload_n X dX2_fillSign_54 0 rfl ?_
      refine y_get X fl_RX2_12 dX2_fillSign_55 g2 ?_
      refine y_get X fl_RX2_41 dX2_fillSign_58 g3 ?_
      refine z_iload_n X dX2_fillSign_61 1 rfl ?_
      refine y_iald X dX2_fillSign_62 g4 ?_
      refine z_iconst X dX2_fillSign_63 kc_3 ?_
      refine z_icmp_ne X dX2_fillSign_64 rfl (fun hc64 => ?_) (fun hc64 => ?_)
      · have hf := iff' hc64 hf
        refine z_iload_n X dX2_fillSign_111 3 rfl ?_
        refine z_aload_n X dX2_fillSign_112 0 rfl ?_
        refine y_get X fl_RX2_30 dX2_fillSign_113 g2 ?_
        refine z_icmp_ge X dX2_fillSign_116 rfl (fun hc116 => ?_) (fun hc116 => ?_)
        · have hf := ift hc116 hf
          exact (z_Ch_fillSign_j158 X hd l0 l1 l2 l3 h _ hf E hx0 hk)
        · have hf := iff' hc116 hf
          refine z_iload_n X dX2_fillSign_119 3 rfl ?_
          refine z_iconst X dX2_fillSign_120 kc_1 ?_
          refine z_iadd X dX2_fillSign_121 ?_
          refine z_istore X dX2_fillSign_122 (by decide) (ls' := [(4, (0, w32 (l3 + 1))), (0, (2, l0)), (1, (0, l1)), (2, (0, l2)), (3, (0, l3))]) rfl ?_
          refine z_aload_n X dX2_fillSign_124 1 rfl ?_
          refine y_get X fl_RX2_19 dX2_fillSign_125 g2 ?_
          refine z_iload_n X dX2_fillSign_128 3 rfl ?_
          refine z_iload_n X dX2_fillSign_129 4 rfl ?_
          refine z_iload X dX2_fillSign_130 0 rfl ?_
          refine z_iload X dX2_fillSign_132 0 rfl ?_
          refine z_iload X dX2_fillSign_134 0 rfl ?_
          obtain ⟨r136, hr136, hf⟩ := obE hf
          refine y_S1 X cs_RX2_37 dX2_fillSign_136 (c_Ch_cell d (Nat.zero_le _) l3 (w32 (l3 + 1)) (w32 (l3 + 1)) (w32 (l3 + 1)) h r136 hr136) (as := [(0, l3), (0, w32 (l3 + 1)), (0, w32 (l3 + 1)), (0, w32 (l3 + 1))]) rfl rfl (Nat.le_of_ble_eq_true rfl) z00 ?_
          refine z_iadd X dX2_fillSign_139 ?_
          refine z_aload_n X dX2_fillSign_140 1 rfl ?_
          refine y_get X fl_RX2_57 dX2_fillSign_141 g2 ?_
          refine z_iload_n X dX2_fillSign_144 4 rfl ?_
          refine z_aload_n X dX2_fillSign_145 1 rfl ?_
          refine y_get X fl_RX2_12 dX2_fillSign_146 g2 ?_
          refine y_get X fl_RX2_102 dX2_fillSign_149 g3 ?_
          refine z_iload_n X dX2_fillSign_152 2 rfl ?_
          obtain ⟨g5, hf⟩ := gif hf
          refine y_iald X dX2_fillSign_153 g5 ?_
          obtain ⟨r154, hr154, hf⟩ := obE hf
          refine ya_RX2_105 X (Nat.le_trans (by decide) hd) dX2_fillSign_154 (h l0 3) l3 (h (h (h l0 0) 9) l1) h r154 hr154 (Nat.le_of_ble_eq_true rfl) ?_
          obtain ⟨g6, hf⟩ := gif hf
          refine y_last X dX2_fillSign_157 g6 ?_
          let h_1 : Hp := hput h (h l0 4) (w32 (l2 + r136)) r154
          exact z_weak [1, 2, 3, 4] rfl (z_Ch_fillSign_j158 X hd l0 l1 l2 l3 h_1 _ hf E hx0 hk)
      · have hf := ift hc64 hf
        refine z_iload_n X dX2_fillSign_67 3 rfl ?_
        refine z_istore X dX2_fillSign_68 (by decide) (ls' := [(4, (0, l3)), (0, (2, l0)), (1, (0, l1)), (2, (0, l2)), (3, (0, l3))]) rfl ?_
        obtain ⟨q70, hq70, hf⟩ := obE hf
        have hx70_0 : ∀ e108 : Hp, (e108 : Hp) = q70 → ZV g x 5 e108 108 [(0, (2, l0)), (1, (0, l1)), (2, (0, l2)), (3, (0, l3))] [] := by
          intro e108 hq
          subst hq
          refine z_goto X dX2_fillSign_108 rfl ?_
          exact (z_Ch_fillSign_j158 X hd l0 l1 l2 l3 e108 _ hf E hx0 hk)
        exact z_weak [1, 2, 3, 4, 0] rfl (z_loop (Z := (fun q : Int × Hp => ZV g x 5 q.2 70 [(0, (2, l0)), (1, (0, l1)), (2, (0, l2)), (3, (0, l3)), (4, (0, q.1))] [])) (E := fun q => q = q70) (fun q y hb hk => z_Ch_fillSign_L70 X hd l0 l1 l2 l3 (fun q => q = q70) hx70_0 q.1 q.2 y hb hk) LN (l3, h) q70 hq70 rfl)
    · have hf := ift hc27 hf
      refine z_aload_n X dX2_fillSign_30 0 rfl ?_
      refine y_get X fl_RX2_19 dX2_fillSign_31 g2 ?_
      refine z_iload_n X dX2_fillSign_34 2 rfl ?_
      refine z_iload_n X dX2_fillSign_35 3 rfl ?_
      refine z_iload_n X dX2_fillSign_36 3 rfl ?_
      refine z_iload_n X dX2_fillSign_37 3 rfl ?_
      refine z_iload_n X dX2_fillSign_38 3 rfl ?_
      obtain ⟨r39, hr39, hf⟩ := obE hf
      refine y_S1 X cs_RX2_37 dX2_fillSign_39 (c_Ch_cell d (Nat.zero_le _) l3 l3 l3 l3 h r39 hr39) (as := [(0, l3), (0, l3), (0, l3), (0, l3)]) rfl rfl (Nat.le_of_ble_eq_true rfl) z00 ?_
      refine z_iadd X dX2_fillSign_42 ?_
      refine z_aload_n X dX2_fillSign_43 0 rfl ?_
      refine y_get X fl_RX2_57 dX2_fillSign_44 g2 ?_
      obtain ⟨r47, hr47, hf⟩ := obE hf
      refine ya_RX2_96 X (Nat.le_trans (by decide) hd) dX2_fillSign_47 (h l0 3) h r47 hr47 (Nat.le_of_ble_eq_true rfl) ?_
      obtain ⟨g9, hf⟩ := gif hf
      refine y_last X dX2_fillSign_50 g9 ?_
      let h_3 : Hp := hput h (h l0 4) (w32 (l2 + r39)) r47
      refine z_goto X dX2_fillSign_51 rfl ?_
      exact (z_Ch_fillSign_j158 X hd l0 l1 l2 l3 h_3 _ hf E hx0 hk)
set_option maxHeartbeats 4000000 in
set_option maxRecDepth 100000 in
theorem c_Ch_fillSign {l : Launch} {g : GP} (d : Nat) (hd : 2 ≤ d) (l0 l1 : Int) (h : Hp) (y : Hp) (hf : Ch_fillSign l0 l1 h = some y) : zM l yX2_fillSign cX2_fillSign 5 none d 0 0 g 157 h [(2, l0), (0, l1)] 157 y none := by
  obtain ⟨d, rfl⟩ : ∃ k, d = k + 1 := ⟨d - 1, by omega⟩
  replace hd : 1 ≤ d := Nat.le_of_succ_le_succ hd
  refine z_start (by decide) (Nat.le_of_ble_eq_true rfl) (fun x X hK _ _ _ hl => ?_)
  show ZV g x 5 h 0 [(0, (2, l0)), (1, (0, l1))] []
  unfold Ch_fillSign at hf
  refine z_aload_n X dX2_fillSign_0 0 rfl ?_
  refine z_iload_n X dX2_fillSign_1 1 rfl ?_
  refine z_iconst X dX2_fillSign_2 kc_1 ?_
  obtain ⟨g1, hf⟩ := gif hf
  obtain ⟨r3, hr3, hf⟩ := obE hf
  refine y_V1 X cv_RX2_33 dX2_fillSign_3 g1 (c_Ch_row d (Nat.zero_le _) l0 l1 1 h r3 hr3) (as := [(0, l1), (0, 1)]) rfl rfl (Nat.le_of_ble_eq_true rfl) z00 ?_
  refine z_istore_n X dX2_fillSign_6 (by decide) (ls' := [(2, (0, r3)), (0, (2, l0)), (1, (0, l1))]) rfl ?_
  refine z_iconst X dX2_fillSign_7 kc_0 ?_
  refine z_istore_n X dX2_fillSign_8 (by decide) (ls' := [(3, (0, 0)), (2, (0, r3)), (0, (2, l0)), (1, (0, l1))]) rfl ?_
  obtain ⟨q9, hq9, hf⟩ := obE hf
  have hx9_0 : ∀ e164 : Hp, (e164 : Hp) = q9 → ZV g x 5 e164 164 [] [] := by
    intro e164 hq
    subst hq
    cases hf
    exact z_vret X hK dX2_fillSign_164
  exact z_weak [2, 3, 1, 0] rfl (z_loop (Z := (fun q : Int × Hp => ZV g x 5 q.2 9 [(0, (2, l0)), (1, (0, l1)), (2, (0, r3)), (3, (0, q.1))] [])) (E := fun q => q = q9) (fun q y hb hk => z_Ch_fillSign_L9 X hd l0 l1 r3 (fun q => q = q9) hx9_0 q.1 q.2 y hb hk) LN (0, h) q9 hq9 rfl)
set_option maxHeartbeats 4000000 in
set_option maxRecDepth 100000 in
theorem c_Ch_isThere {l : Launch} {g : GP} (d : Nat) (hd : 0 ≤ d) (l0 l1 : Int) (h : Hp) (y : Int) (hf : Ch_isThere l0 l1 h = some y) : zM l yX2_isThere cX2_isThere 2 (some .boolean) d 0 0 g 157 h [(2, l0), (0, l1)] 157 h (some (0, y)) := by
  refine z_start (by decide) (Nat.le_of_ble_eq_true rfl) (fun x X hK _ _ _ hl => ?_)
  show ZV g x 2 h 0 [(0, (2, l0)), (1, (0, l1))] []
  unfold Ch_isThere at hf
  refine z_aload_n X dX2_isThere_0 0 rfl ?_
  obtain ⟨g1, hf⟩ := gif hf
  refine y_get X fl_RX2_54 dX2_isThere_1 g1 ?_
  refine z_iload_n X dX2_isThere_4 1 rfl ?_
  refine z_ishr X dX2_isThere_5 ?_
  refine z_iconst X dX2_isThere_6 kc_1 ?_
  refine z_iand X dX2_isThere_7 ?_
  refine z_if_ne X dX2_isThere_8 rfl (fun hc8 => ?_) (fun hc8 => ?_)
  · rw [if_neg hc8] at hf
    refine z_iconst X dX2_isThere_15 kc_0 ?_
    cases hf
    exact z_zret X hK (Or.inl rfl) dX2_isThere_16
  · rw [if_pos hc8] at hf
    refine z_iconst X dX2_isThere_11 kc_1 ?_
    refine z_goto X dX2_isThere_12 rfl ?_
    cases hf
    exact z_zret X hK (Or.inr rfl) dX2_isThere_16
set_option maxHeartbeats 4000000 in
set_option maxRecDepth 100000 in
theorem z_Ch_fill_j169 {g : GP} {x : CX} {d : Nat} (X : zX g x RX2 cX2_fill 8 (d + 1)) (hd : 3 ≤ d) (l0 l5 l6 : Int) (h : Hp) (y : (Int × Hp) ⊕ (Hp)) (hf : Ch_fill_j169 l0 l5 l6 h = some y) (E : Hp → Prop) (hx0 : ∀ e : Hp, E (e) → ZV g x 8 e 175 [(0, (2, l0)), (5, (0, l5))] []) (hk : z_sum (fun q : Int × Hp => ZV g x 8 q.2 40 [(0, (2, l0)), (5, (0, l5)), (6, (0, q.1))] []) E y) : ZV g x 8 h 169 [(0, (2, l0)), (5, (0, l5)), (6, (0, l6))] [] := by
  unfold Ch_fill_j169 at hf
  refine z_iinc X dX2_fill_169 2 rfl (by decide) (ls' := [(6, (0, w32 (l6 + 1))), (0, (2, l0)), (5, (0, l5))]) rfl ?_
  refine z_goto X dX2_fill_172 rfl ?_
  cases hf
  exact z_weak [1, 2, 0] rfl hk
set_option maxHeartbeats 4000000 in
set_option maxRecDepth 100000 in
theorem z_Ch_fill_L40 {g : GP} {x : CX} {d : Nat} (X : zX g x RX2 cX2_fill 8 (d + 1)) (hd : 3 ≤ d) (l0 l5 : Int)  (E : Hp → Prop) (hx0 : ∀ e : Hp, E (e) → ZV g x 8 e 175 [(0, (2, l0)), (5, (0, l5))] []) (l6 : Int) (h : Hp) (y : (Int × Hp) ⊕ (Hp)) (hf : Ch_fill_L40 l0 l5 l6 h = some y) (hk : z_sum (fun q : Int × Hp => ZV g x 8 q.2 40 [(0, (2, l0)), (5, (0, l5)), (6, (0, q.1))] []) E y) : ZV g x 8 h 40 [(0, (2, l0)), (5, (0, l5)), (6, (0, l6))] [] := by
  unfold Ch_fill_L40 at hf
  refine z_iload X dX2_fill_40 2 rfl ?_
  refine z_aload_n X dX2_fill_42 0 rfl ?_
  obtain ⟨g3, hf⟩ := gif hf
  refine y_get X fl_RX2_12 dX2_fill_43 g3 ?_
  obtain ⟨g4, hf⟩ := gif hf
  refine y_get X fl_RX2_26 dX2_fill_46 g4 ?_
  refine z_icmp_ge X dX2_fill_49 rfl (fun hc49 => ?_) (fun hc49 => ?_)
  · have hf := ift hc49 hf
    cases hf
    exact z_weak [0, 1] rfl (hx0 _ hk)
  · have hf := iff' hc49 hf
    refine z_aload_n X dX2_fill_52 0 rfl ?_
    refine y_get X fl_RX2_12 dX2_fill_53 g3 ?_
    refine y_get X fl_RX2_64 dX2_fill_56 g4 ?_
    refine z_iload X dX2_fill_59 2 rfl ?_
    obtain ⟨g5, hf⟩ := gif hf
    refine y_iald X dX2_fill_61 g5 ?_
    refine z_istore X dX2_fill_62 (by decide) (ls' := [(7, (0, h (h (h l0 0) 16) l6)), (0, (2, l0)), (5, (0, l5)), (6, (0, l6))]) rfl ?_
    refine z_aload_n X dX2_fill_64 1 rfl ?_
    refine z_aload_n X dX2_fill_65 1 rfl ?_
    refine y_get X fl_RX2_12 dX2_fill_66 g3 ?_
    refine y_get X fl_RX2_67 dX2_fill_69 g4 ?_
    refine z_iload X dX2_fill_72 0 rfl ?_
    obtain ⟨g6, hf⟩ := gif hf
    refine y_iald X dX2_fill_74 g6 ?_
    obtain ⟨r75, hr75, hf⟩ := obE hf
    refine y_V1 X cv_RX2_70 dX2_fill_75 g3 (c_Ch_isThere d (Nat.zero_le _) l0 (h (h (h l0 0) 7) (h (h (h l0 0) 16) l6)) h r75 hr75) (as := [(0, h (h (h l0 0) 7) (h (h (h l0 0) 16) l6))]) rfl rfl (Nat.le_of_ble_eq_true rfl) z00 ?_
    refine z_if_eq X dX2_fill_78 rfl (fun hc78 => ?_) (fun hc78 => ?_)
    · have hf := ift hc78 hf
      exact z_weak [1, 2, 3] rfl (z_Ch_fill_j169 X hd l0 l5 l6 h _ hf E hx0 hk)
    · have hf := iff' hc78 hf
      refine z_aload_n X dX2_fill_81 1 rfl ?_
      refine y_get X fl_RX2_12 dX2_fill_82 g3 ?_
      refine y_get X fl_RX2_74 dX2_fill_85 g4 ?_
      refine z_iload X dX2_fill_88 0 rfl ?_
      obtain ⟨g7, hf⟩ := gif hf
      refine y_iald X dX2_fill_90 g7 ?_
      refine z_iload X dX2_fill_91 2 rfl ?_
      refine z_icmp_le X dX2_fill_93 rfl (fun hc93 => ?_) (fun hc93 => ?_)
      · have hf := ift hc93 hf
        refine z_aload_n X dX2_fill_99 1 rfl ?_
        refine y_get X fl_RX2_12 dX2_fill_100 g3 ?_
        refine y_get X fl_RX2_41 dX2_fill_103 g4 ?_
        refine z_iload X dX2_fill_106 0 rfl ?_
        obtain ⟨g8, hf⟩ := gif hf
        refine y_iald X dX2_fill_108 g8 ?_
        refine z_if_ne X dX2_fill_109 rfl (fun hc109 => ?_) (fun hc109 => ?_)
        · have hf := iff' hc109 hf
          refine z_aload_n X dX2_fill_123 1 rfl ?_
          refine y_get X fl_RX2_12 dX2_fill_124 g3 ?_
          refine y_get X fl_RX2_41 dX2_fill_127 g4 ?_
          refine z_iload X dX2_fill_130 0 rfl ?_
          refine y_iald X dX2_fill_132 g8 ?_
          refine z_iconst X dX2_fill_133 kc_4 ?_
          refine z_icmp_ne X dX2_fill_134 rfl (fun hc134 => ?_) (fun hc134 => ?_)
          · have hf := iff' hc134 hf
            refine z_aload_n X dX2_fill_148 1 rfl ?_
            refine y_get X fl_RX2_12 dX2_fill_149 g3 ?_
            refine y_get X fl_RX2_74 dX2_fill_152 g4 ?_
            refine z_iload X dX2_fill_155 0 rfl ?_
            refine y_iald X dX2_fill_157 g7 ?_
            refine z_iload X dX2_fill_158 2 rfl ?_
            refine z_icmp_ne X dX2_fill_160 rfl (fun hc160 => ?_) (fun hc160 => ?_)
            · have hf := iff' hc160 hf
              exact z_weak [1, 2, 3] rfl (z_Ch_fill_j169 X hd l0 l5 l6 h _ hf E hx0 hk)
            · have hf := ift hc160 hf
              refine z_aload_n X dX2_fill_163 1 rfl ?_
              refine z_iload X dX2_fill_164 0 rfl ?_
              obtain ⟨r166, hr166, hf⟩ := obE hf
              refine y_V0 X cv_RX2_84 dX2_fill_166 g3 (c_Ch_fillSign d (Nat.le_trans (by decide) hd) l0 (h (h (h l0 0) 16) l6) h r166 hr166) (as := [(0, h (h (h l0 0) 16) l6)]) rfl rfl (Nat.le_of_ble_eq_true rfl) z00 ?_
              exact z_weak [1, 2, 3] rfl (z_Ch_fill_j169 X hd l0 l5 l6 r166 _ hf E hx0 hk)
          · have hf := ift hc134 hf
            refine z_aload_n X dX2_fill_137 1 rfl ?_
            refine z_iload X dX2_fill_138 0 rfl ?_
            refine z_iload X dX2_fill_140 2 rfl ?_
            obtain ⟨r142, hr142, hf⟩ := obE hf
            refine y_V0 X cv_RX2_81 dX2_fill_142 g3 (c_Ch_fillPlace d (Nat.le_trans (by decide) hd) l0 (h (h (h l0 0) 16) l6) l5 h r142 hr142) (as := [(0, h (h (h l0 0) 16) l6), (0, l5)]) rfl rfl (Nat.le_of_ble_eq_true rfl) z00 ?_
            refine z_goto X dX2_fill_145 rfl ?_
            exact z_weak [1, 2, 3] rfl (z_Ch_fill_j169 X hd l0 l5 l6 r142 _ hf E hx0 hk)
        · have hf := ift hc109 hf
          refine z_aload_n X dX2_fill_112 1 rfl ?_
          refine z_iload X dX2_fill_113 0 rfl ?_
          refine z_iload X dX2_fill_115 2 rfl ?_
          obtain ⟨r117, hr117, hf⟩ := obE hf
          refine y_V0 X cv_RX2_77 dX2_fill_117 g3 (c_Ch_fillBranch d (Nat.le_trans (by decide) hd) l0 (h (h (h l0 0) 16) l6) l5 h r117 hr117) (as := [(0, h (h (h l0 0) 16) l6), (0, l5)]) rfl rfl (Nat.le_of_ble_eq_true rfl) z00 ?_
          refine z_goto X dX2_fill_120 rfl ?_
          exact z_weak [1, 2, 3] rfl (z_Ch_fill_j169 X hd l0 l5 l6 r117 _ hf E hx0 hk)
      · have hf := iff' hc93 hf
        refine z_goto X dX2_fill_96 rfl ?_
        exact z_weak [1, 2, 3] rfl (z_Ch_fill_j169 X hd l0 l5 l6 h _ hf E hx0 hk)
set_option maxHeartbeats 4000000 in
set_option maxRecDepth 100000 in
theorem z_Ch_fill_L28 {g : GP} {x : CX} {d : Nat} (X : zX g x RX2 cX2_fill 8 (d + 1)) (hd : 3 ≤ d) (l0 : Int)  (E : Hp → Prop) (hx0 : ∀ e : Hp, E (e) → ZV g x 8 e 181 [] []) (l5 : Int) (h : Hp) (y : (Int × Hp) ⊕ (Hp)) (hf : Ch_fill_L28 l0 l5 h = some y) (hk : z_sum (fun q : Int × Hp => ZV g x 8 q.2 28 [(0, (2, l0)), (5, (0, q.1))] []) E y) : ZV g x 8 h 28 [(0, (2, l0)), (5, (0, l5))] [] := by
  unfold Ch_fill_L28 at hf
  refine z_iload X dX2_fill_28 1 rfl ?_
  refine z_aload_n X dX2_fill_30 0 rfl ?_
  obtain ⟨g2, hf⟩ := gif hf
  refine y_get X fl_RX2_30 dX2_fill_31 g2 ?_
  refine z_icmp_gt X dX2_fill_34 rfl (fun hc34 => ?_) (fun hc34 => ?_)
  · have hf := ift hc34 hf
    cases hf
    exact z_weak [] rfl (hx0 _ hk)
  · have hf := iff' hc34 hf
    refine z_iconst X dX2_fill_37 kc_0 ?_
    refine z_istore X dX2_fill_38 (by decide) (ls' := [(6, (0, 0)), (0, (2, l0)), (5, (0, l5))]) rfl ?_
    obtain ⟨q40, hq40, hf⟩ := obE hf
    have hx40_0 : ∀ e175 : Hp, (e175 : Hp) = q40 → ZV g x 8 e175 175 [(0, (2, l0)), (5, (0, l5))] [] := by
      intro e175 hq
      subst hq
      refine z_iinc X dX2_fill_175 1 rfl (by decide) (ls' := [(5, (0, w32 (l5 + 1))), (0, (2, l0))]) rfl ?_
      refine z_goto X dX2_fill_178 rfl ?_
      cases hf
      exact z_weak [1, 0] rfl hk
    exact z_weak [1, 2, 0] rfl (z_loop (Z := (fun q : Int × Hp => ZV g x 8 q.2 40 [(0, (2, l0)), (5, (0, l5)), (6, (0, q.1))] [])) (E := fun q => q = q40) (fun q y hb hk => z_Ch_fill_L40 X hd l0 l5 (fun q => q = q40) hx40_0 q.1 q.2 y hb hk) LN (0, h) q40 hq40 rfl)
set_option maxHeartbeats 4000000 in
set_option maxRecDepth 100000 in
theorem c_Ch_fill {l : Launch} {g : GP} (d : Nat) (hd : 4 ≤ d) (l0 l1 l2 l3 l4 : Int) (h : Hp) (y : Hp) (hf : Ch_fill l0 l1 l2 l3 l4 h = some y) : zM l yX2_fill cX2_fill 8 none d 0 0 g 157 h [(2, l0), (2, l1), (0, l2), (0, l3), (2, l4)] 157 y none := by
  obtain ⟨d, rfl⟩ : ∃ k, d = k + 1 := ⟨d - 1, by omega⟩
  replace hd : 3 ≤ d := Nat.le_of_succ_le_succ hd
  refine z_start (by decide) (Nat.le_of_ble_eq_true rfl) (fun x X hK _ _ _ hl => ?_)
  show ZV g x 8 h 0 [(0, (2, l0)), (1, (2, l1)), (2, (0, l2)), (3, (0, l3)), (4, (2, l4))] []
  unfold Ch_fill at hf
  refine z_aload_n X dX2_fill_0 0 rfl ?_
  refine z_aload_n X dX2_fill_1 1 rfl ?_
  obtain ⟨g1, hf⟩ := gif hf
  refine y_put X fl_RX2_12 dX2_fill_2 g1 rfl (by decide) ?_
  let h_1 : Hp := hput h l0 0 l1
  refine z_aload_n X dX2_fill_5 0 rfl ?_
  refine z_iload_n X dX2_fill_6 2 rfl ?_
  refine y_put X fl_RX2_54 dX2_fill_7 g1 rfl (by decide) ?_
  let h_2 : Hp := hput h_1 l0 2 l2
  refine z_aload_n X dX2_fill_10 0 rfl ?_
  refine z_iload_n X dX2_fill_11 3 rfl ?_
  refine y_put X fl_RX2_30 dX2_fill_12 g1 rfl (by decide) ?_
  let h_3 : Hp := hput h_2 l0 1 l3
  refine z_aload_n X dX2_fill_15 0 rfl ?_
  refine z_aload X dX2_fill_16 4 rfl ?_
  refine y_put X fl_RX2_57 dX2_fill_18 g1 rfl (by decide) ?_
  let h_4 : Hp := hput h_3 l0 3 l4
  refine z_aload_n X dX2_fill_21 0 rfl ?_
  obtain ⟨r22, hr22, hf⟩ := obE hf
  refine y_V0 X cv_RX2_61 dX2_fill_22 g1 (c_Ch_clear d (Nat.le_trans (by decide) hd) l0 h_4 r22 hr22) (as := []) rfl rfl (Nat.le_of_ble_eq_true rfl) z00 ?_
  refine z_iconst X dX2_fill_25 kc_0 ?_
  refine z_istore X dX2_fill_26 (by decide) (ls' := [(5, (0, 0)), (0, (2, l0)), (1, (2, l1)), (2, (0, l2)), (3, (0, l3)), (4, (2, l4))]) rfl ?_
  obtain ⟨q28, hq28, hf⟩ := obE hf
  have hx28_0 : ∀ e181 : Hp, (e181 : Hp) = q28 → ZV g x 8 e181 181 [] [] := by
    intro e181 hq
    subst hq
    cases hf
    exact z_vret X hK dX2_fill_181
  exact z_weak [1, 0] rfl (z_loop (Z := (fun q : Int × Hp => ZV g x 8 q.2 28 [(0, (2, l0)), (5, (0, q.1))] [])) (E := fun q => q = q28) (fun q y hb hk => z_Ch_fill_L28 X hd l0 (fun q => q = q28) hx28_0 q.1 q.2 y hb hk) LN (0, r22) q28 hq28 rfl)
set_option maxHeartbeats 4000000 in
set_option maxRecDepth 100000 in
theorem c_Gr_hostsAtStart {l : Launch} {g : GP} (d : Nat) (hd : 0 ≤ d) (l0 : Int) (h : Hp) (y : Int) (hf : Gr_hostsAtStart l0 h = some y) : zM l yX4_hostsAtStart cX4_hostsAtStart 1 (some .int) d 0 0 g 157 h [(2, l0)] 157 h (some (0, y)) := by
  refine z_start (by decide) (Nat.le_of_ble_eq_true rfl) (fun x X hK _ _ _ hl => ?_)
  show ZV g x 1 h 0 [(0, (2, l0))] []
  unfold Gr_hostsAtStart at hf
  refine z_aload_n X dX4_hostsAtStart_0 0 rfl ?_
  obtain ⟨g1, hf⟩ := gif hf
  refine y_get X fl_RX4_52 dX4_hostsAtStart_1 g1 ?_
  refine z_if_ne X dX4_hostsAtStart_4 rfl (fun hc4 => ?_) (fun hc4 => ?_)
  · have hf := iff' hc4 hf
    refine z_aload_n X dX4_hostsAtStart_11 0 rfl ?_
    refine y_get X fl_RX4_46 dX4_hostsAtStart_12 g1 ?_
    refine z_aload_n X dX4_hostsAtStart_15 0 rfl ?_
    refine y_get X fl_RX4_21 dX4_hostsAtStart_16 g1 ?_
    refine z_iconst X dX4_hostsAtStart_19 kc_0 ?_
    obtain ⟨g2, hf⟩ := gif hf
    refine y_iald X dX4_hostsAtStart_20 g2 ?_
    obtain ⟨g3, hf⟩ := gif hf
    refine y_iald X dX4_hostsAtStart_21 g3 ?_
    cases hf
    exact z_iret X hK dX4_hostsAtStart_22
  · have hf := ift hc4 hf
    refine z_iconst X dX4_hostsAtStart_7 kc_0 ?_
    refine z_goto X dX4_hostsAtStart_8 rfl ?_
    cases hf
    exact z_iret X hK dX4_hostsAtStart_22
set_option maxHeartbeats 4000000 in
set_option maxRecDepth 100000 in
theorem c_Ch_atStart {l : Launch} {g : GP} (d : Nat) (hd : 3 ≤ d) (l0 l1 : Int) (h : Hp) (y : Int) (hf : Ch_atStart l0 l1 h = some y) : zM l yX2_atStart cX2_atStart 2 (some .long) d 0 0 g 157 h [(2, l0), (0, l1)] 157 h (some (1, y)) := by
  obtain ⟨d, rfl⟩ : ∃ k, d = k + 1 := ⟨d - 1, by omega⟩
  replace hd : 2 ≤ d := Nat.le_of_succ_le_succ hd
  refine z_start (by decide) (Nat.le_of_ble_eq_true rfl) (fun x X hK _ _ _ hl => ?_)
  show ZV g x 2 h 0 [(0, (2, l0)), (1, (0, l1))] []
  unfold Ch_atStart at hf
  refine z_aload_n X dX2_atStart_0 0 rfl ?_
  refine z_aload_n X dX2_atStart_1 0 rfl ?_
  obtain ⟨g1, hf⟩ := gif hf
  refine y_get X fl_RX2_12 dX2_atStart_2 g1 ?_
  obtain ⟨g2, hf⟩ := gif hf
  obtain ⟨r5, hr5, hf⟩ := obE hf
  refine y_V1 X cv_RX2_173 dX2_atStart_5 g2 (c_Gr_hostsAtStart d (Nat.zero_le _) (h l0 0) h r5 hr5) (as := []) rfl rfl (Nat.le_of_ble_eq_true rfl) z00 ?_
  refine z_iconst X dX2_atStart_8 kc_0 ?_
  refine z_iload_n X dX2_atStart_9 1 rfl ?_
  obtain ⟨r10, hr10, hf⟩ := obE hf
  refine y_V1 X cv_RX2_112 dX2_atStart_10 g1 (c_Ch_hostsOver d (Nat.le_trans (by decide) hd) l0 r5 0 l1 h r10 hr10) (as := [(0, r5), (0, 0), (0, l1)]) rfl rfl (Nat.le_of_ble_eq_true rfl) z00 ?_
  cases hf
  exact z_lret X hK dX2_atStart_13
set_option maxHeartbeats 4000000 in
set_option maxRecDepth 100000 in
theorem z_Ch_rootsOver_j63 {g : GP} {x : CX} {d : Nat} (X : zX g x RX2 cX2_rootsOver 8 (d + 1)) (hd : 1 ≤ d) (l0 l1 l2 l3 l4 l5 l6 l7 : Int) (h : Hp) (y : (Int × Int) ⊕ (Int)) (hf : Ch_rootsOver_j63 l0 l1 l2 l3 l4 l5 l6 l7 h = some y) (E : Int → Prop) (hx0 : ∀ e : Int, E (e) → ZV g x 8 h 69 [(6, (0, e))] []) (hk : z_sum (fun q : Int × Int => ZV g x 8 h 6 [(0, (2, l0)), (1, (0, l1)), (2, (0, l2)), (3, (0, l3)), (4, (0, l4)), (5, (0, l5)), (6, (0, q.1)), (7, (0, q.2))] []) E y) : ZV g x 8 h 63 [(0, (2, l0)), (1, (0, l1)), (2, (0, l2)), (3, (0, l3)), (4, (0, l4)), (5, (0, l5)), (6, (0, l6)), (7, (0, l7))] [] := by
  unfold Ch_rootsOver_j63 at hf
  refine z_iinc X dX2_rootsOver_63 7 rfl (by decide) (ls' := [(7, (0, w32 (l7 + 1))), (0, (2, l0)), (1, (0, l1)), (2, (0, l2)), (3, (0, l3)), (4, (0, l4)), (5, (0, l5)), (6, (0, l6))]) rfl ?_
  refine z_goto X dX2_rootsOver_66 rfl ?_
  cases hf
  exact z_weak [1, 2, 3, 4, 5, 6, 7, 0] rfl hk
