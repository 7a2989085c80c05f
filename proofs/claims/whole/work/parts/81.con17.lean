set_option maxHeartbeats 4000000 in
set_option maxRecDepth 100000 in
theorem z_M_stepsAbove_L33 {g : GP} {x : CX} {d : Nat} (X : zX g x RX12 cX12_stepsAbove 11 (d + 1)) (hd : 1 ≤ d) (IH : M_stepsIn_G_IH (xl x) g d) (l0 l1 l2 l3 l4 l5 l6 : Int)  (E : Int × Hp → Prop) (hx0 : ∀ e : Int × Hp, E (e) → ZV g x 11 e.2 205 [(7, (0, e.1))] []) (l7 l8 : Int) (h : Hp) (y : (Int × Int × Hp) ⊕ (Int × Hp)) (hf : M_stepsAbove_L33 (M_stepsIn_G d) d l0 l1 l2 l3 l4 l5 l6 l7 l8 h = some y) (hk : z_sum (fun q : Int × Int × Hp => ZV g x 11 q.2.2 33 [(0, (2, l0)), (1, (0, l1)), (2, (0, l2)), (3, (0, l3)), (4, (0, l4)), (5, (0, l5)), (6, (0, l6)), (7, (0, q.1)), (8, (0, q.2.1))] []) E y) : ZV g x 11 h 33 [(0, (2, l0)), (1, (0, l1)), (2, (0, l2)), (3, (0, l3)), (4, (0, l4)), (5, (0, l5)), (6, (0, l6)), (7, (0, l7)), (8, (0, l8))] [] := by
  unfold M_stepsAbove_L33 at hf
  refine z_iload X dX12_stepsAbove_33 8 rfl ?_
  refine z_aload_n X dX12_stepsAbove_35 0 rfl ?_
  obtain ⟨g3, hf⟩ := gif hf
  refine y_get X fl_RX12_11 dX12_stepsAbove_36 g3 ?_
  refine z_icmp_ge X dX12_stepsAbove_39 rfl (fun hc39 => ?_) (fun hc39 => ?_)
  · have hf := ift hc39 hf
    cases hf
    exact z_weak [7] rfl (hx0 _ hk)
  · have hf := iff' hc39 hf
    refine z_aload_n X dX12_stepsAbove_42 0 rfl ?_
    refine y_get X fl_RX12_104 dX12_stepsAbove_43 g3 ?_
    refine z_iload_n X dX12_stepsAbove_46 1 rfl ?_
    obtain ⟨g4, hf⟩ := gif hf
    refine y_iald X dX12_stepsAbove_47 g4 ?_
    refine z_iconst X dX12_stepsAbove_48 kc_1 ?_
    refine z_icmp_eq X dX12_stepsAbove_49 rfl (fun hc49 => ?_) (fun hc49 => ?_)
    · have hf := ift hc49 hf
      cases hf
      exact z_weak [7] rfl (hx0 _ hk)
    · have hf := iff' hc49 hf
      refine z_aload_n X dX12_stepsAbove_52 0 rfl ?_
      refine z_iload X dX12_stepsAbove_53 8 rfl ?_
      refine z_aload_n X dX12_stepsAbove_55 0 rfl ?_
      refine y_get X fl_RX12_101 dX12_stepsAbove_56 g3 ?_
      refine z_iload_n X dX12_stepsAbove_59 1 rfl ?_
      obtain ⟨g5, hf⟩ := gif hf
      refine y_iald X dX12_stepsAbove_60 g5 ?_
      refine z_iconst X dX12_stepsAbove_61 kc_1 ?_
      obtain ⟨r62, hr62, hf⟩ := obE hf
      refine y_V1 X cv_RX12_296 dX12_stepsAbove_62 g3 (c_M_mayGo d (Nat.le_trans (by decide) hd) l0 l8 (h (h l0 6) l1) 1 h r62 hr62) (as := [(0, l8), (0, h (h l0 6) l1), (0, 1)]) rfl rfl (Nat.le_of_ble_eq_true rfl) z00 ?_
      refine z_if_ne X dX12_stepsAbove_65 rfl (fun hc65 => ?_) (fun hc65 => ?_)
      · have hf := iff' hc65 hf
        refine z_iload_n X dX12_stepsAbove_71 2 rfl ?_
        refine z_istore X dX12_stepsAbove_72 (by decide) (ls' := [(9, (0, l2)), (0, (2, l0)), (1, (0, l1)), (2, (0, l2)), (3, (0, l3)), (4, (0, l4)), (5, (0, l5)), (6, (0, l6)), (7, (0, l7)), (8, (0, l8))]) rfl ?_
        obtain ⟨q74, hq74, hf⟩ := obE hf
        have hx74_0 : ∀ e199 : Int × Hp, (e199 : Int × Hp) = q74 → ZV g x 11 e199.2 199 [(0, (2, l0)), (1, (0, l1)), (2, (0, l2)), (3, (0, l3)), (4, (0, l4)), (5, (0, l5)), (6, (0, l6)), (7, (0, e199.1)), (8, (0, l8))] [] := by
          intro e199 hq
          subst hq
          exact (z_M_stepsAbove_j199 X hd IH l0 l1 l2 l3 l4 l5 l6 e199.1 l8 e199.2 _ hf E hx0 hk)
        exact z_weak [1, 2, 3, 4, 5, 6, 7, 8, 9, 0] rfl (z_loop (Z := (fun q : Int × Int × Hp => ZV g x 11 q.2.2 74 [(0, (2, l0)), (1, (0, l1)), (2, (0, l2)), (3, (0, l3)), (4, (0, l4)), (5, (0, l5)), (6, (0, l6)), (7, (0, q.1)), (8, (0, l8)), (9, (0, q.2.1))] [])) (E := fun q => q = q74) (fun q y hb hk => z_M_stepsAbove_L74 X hd IH l0 l1 l2 l3 l4 l5 l6 l8 (fun q => q = q74) hx74_0 q.1 q.2.1 q.2.2 y hb hk) LN (l7, l2, h) q74 hq74 rfl)
      · have hf := ift hc65 hf
        refine z_goto X dX12_stepsAbove_68 rfl ?_
        exact (z_M_stepsAbove_j199 X hd IH l0 l1 l2 l3 l4 l5 l6 l7 l8 h _ hf E hx0 hk)
set_option maxHeartbeats 4000000 in
set_option maxRecDepth 100000 in
theorem z_M_stepsAbove_j28 {g : GP} {x : CX} {d : Nat} (X : zX g x RX12 cX12_stepsAbove 11 (d + 1)) (hd : 1 ≤ d) (IH : M_stepsIn_G_IH (xl x) g d) (l0 l1 l2 l3 l4 l5 l6 s0 : Int) (h : Hp) (y : Int × Hp) (hf : M_stepsAbove_j28 (M_stepsIn_G d) d l0 l1 l2 l3 l4 l5 l6 s0 h = some y) (hK : zE g x (some .int) 0 0 157 y.2 (some (0, y.1))) : ZV g x 11 h 28 [(0, (2, l0)), (1, (0, l1)), (2, (0, l2)), (3, (0, l3)), (4, (0, l4)), (5, (0, l5)), (6, (0, l6))] [(0, s0)] := by
  unfold M_stepsAbove_j28 at hf
  refine z_istore X dX12_stepsAbove_28 (by decide) (ls' := [(7, (0, s0)), (0, (2, l0)), (1, (0, l1)), (2, (0, l2)), (3, (0, l3)), (4, (0, l4)), (5, (0, l5)), (6, (0, l6))]) rfl ?_
  refine z_iconst X dX12_stepsAbove_30 kc_0 ?_
  refine z_istore X dX12_stepsAbove_31 (by decide) (ls' := [(8, (0, 0)), (7, (0, s0)), (0, (2, l0)), (1, (0, l1)), (2, (0, l2)), (3, (0, l3)), (4, (0, l4)), (5, (0, l5)), (6, (0, l6))]) rfl ?_
  obtain ⟨q33, hq33, hf⟩ := obE hf
  have hx33_0 : ∀ e205 : Int × Hp, (e205 : Int × Hp) = q33 → ZV g x 11 e205.2 205 [(7, (0, e205.1))] [] := by
    intro e205 hq
    subst hq
    refine z_iload X dX12_stepsAbove_205 0 rfl ?_
    cases hf
    exact z_iret X hK dX12_stepsAbove_207
  exact z_weak [2, 3, 4, 5, 6, 7, 8, 1, 0] rfl (z_loop (Z := (fun q : Int × Int × Hp => ZV g x 11 q.2.2 33 [(0, (2, l0)), (1, (0, l1)), (2, (0, l2)), (3, (0, l3)), (4, (0, l4)), (5, (0, l5)), (6, (0, l6)), (7, (0, q.1)), (8, (0, q.2.1))] [])) (E := fun q => q = q33) (fun q y hb hk => z_M_stepsAbove_L33 X hd IH l0 l1 l2 l3 l4 l5 l6 (fun q => q = q33) hx33_0 q.1 q.2.1 q.2.2 y hb hk) LN (s0, 0, h) q33 hq33 rfl)
set_option maxHeartbeats 4000000 in
set_option maxRecDepth 100000 in
theorem cb_M_stepsAbove {l : Launch} {g : GP} {d : Nat} (IH : M_stepsIn_G_IH l g d) (hd : 1 ≤ d) (l0 l1 l2 l3 l4 l5 l6 : Int) (h : Hp) (y : Int × Hp) (hf : M_stepsAbove_b (M_stepsIn_G d) d l0 l1 l2 l3 l4 l5 l6 h = some y) : zM l yX12_stepsAbove cX12_stepsAbove 11 (some .int) (d + 1) 0 0 g 157 h [(2, l0), (0, l1), (0, l2), (0, l3), (0, l4), (0, l5), (0, l6)] 157 y.2 (some (0, y.1)) := by
  refine z_start (by decide) (Nat.le_of_ble_eq_true rfl) (fun x X hK _ _ _ hl => ?_)
  have IH : M_stepsIn_G_IH (xl x) g d := hl ▸ IH
  show ZV g x 11 h 0 [(0, (2, l0)), (1, (0, l1)), (2, (0, l2)), (3, (0, l3)), (4, (0, l4)), (5, (0, l5)), (6, (0, l6))] []
  unfold M_stepsAbove_b at hf
  refine z_aload_n X dX12_stepsAbove_0 0 rfl ?_
  obtain ⟨g1, hf⟩ := gif hf
  refine y_get X fl_RX12_104 dX12_stepsAbove_1 g1 ?_
  refine z_iload_n X dX12_stepsAbove_4 1 rfl ?_
  obtain ⟨g2, hf⟩ := gif hf
  refine y_iald X dX12_stepsAbove_5 g2 ?_
  refine z_iconst X dX12_stepsAbove_6 kc_2 ?_
  refine z_icmp_ne X dX12_stepsAbove_7 rfl (fun hc7 => ?_) (fun hc7 => ?_)
  · have hf := iff' hc7 hf
    refine z_aload_n X dX12_stepsAbove_14 0 rfl ?_
    refine z_iconst X dX12_stepsAbove_15 kc_0 ?_
    refine z_iload_n X dX12_stepsAbove_16 1 rfl ?_
    refine z_iload_n X dX12_stepsAbove_17 2 rfl ?_
    refine z_iload_n X dX12_stepsAbove_18 3 rfl ?_
    refine z_iload X dX12_stepsAbove_19 4 rfl ?_
    refine z_iload X dX12_stepsAbove_21 5 rfl ?_
    refine z_iload X dX12_stepsAbove_23 6 rfl ?_
    obtain ⟨r25, hr25, hf⟩ := obE hf
    refine y_V1 X cv_RX12_339 dX12_stepsAbove_25 g1 (IH.1 l0 0 l1 l2 l3 l4 l5 l6 h r25 hr25) (as := [(0, 0), (0, l1), (0, l2), (0, l3), (0, l4), (0, l5), (0, l6)]) rfl rfl (Nat.le_of_ble_eq_true rfl) z00 ?_
    exact (z_M_stepsAbove_j28 X hd IH l0 l1 l2 l3 l4 l5 l6 r25.1 r25.2 _ hf hK)
  · have hf := ift hc7 hf
    refine z_iconst X dX12_stepsAbove_10 kc_m1 ?_
    refine z_goto X dX12_stepsAbove_11 rfl ?_
    exact (z_M_stepsAbove_j28 X hd IH l0 l1 l2 l3 l4 l5 l6 ((-1)) h _ hf hK)
set_option maxHeartbeats 4000000 in
set_option maxRecDepth 100000 in
theorem z_M_stepsBelow_j278 {g : GP} {x : CX} {d : Nat} (X : zX g x RX12 cX12_stepsBelow 11 (d + 1)) (hd : 1 ≤ d) (IH : M_stepsIn_G_IH (xl x) g d) (l0 l1 l2 l3 l4 l5 l6 l7 l8 : Int) (h : Hp) (y : (Int × Int × Hp) ⊕ (Int × Hp)) (hf : M_stepsBelow_j278 (M_stepsIn_G d) d l0 l1 l2 l3 l4 l5 l6 l7 l8 h = some y) (E : Int × Hp → Prop) (hx0 : ∀ e : Int × Hp, E (e) → ZV g x 11 e.2 284 [(7, (0, e.1))] []) (hk : z_sum (fun q : Int × Int × Hp => ZV g x 11 q.2.2 136 [(0, (2, l0)), (1, (0, l1)), (2, (0, l2)), (3, (0, l3)), (4, (0, l4)), (5, (0, l5)), (6, (0, l6)), (7, (0, q.1)), (8, (0, q.2.1))] []) E y) : ZV g x 11 h 278 [(0, (2, l0)), (1, (0, l1)), (2, (0, l2)), (3, (0, l3)), (4, (0, l4)), (5, (0, l5)), (6, (0, l6)), (7, (0, l7)), (8, (0, l8))] [] := by
  unfold M_stepsBelow_j278 at hf
  refine z_iinc X dX12_stepsBelow_278 8 rfl (by decide) (ls' := [(8, (0, w32 (l8 + 1))), (0, (2, l0)), (1, (0, l1)), (2, (0, l2)), (3, (0, l3)), (4, (0, l4)), (5, (0, l5)), (6, (0, l6)), (7, (0, l7))]) rfl ?_
  refine z_goto X dX12_stepsBelow_281 rfl ?_
  cases hf
  exact z_weak [1, 2, 3, 4, 5, 6, 7, 8, 0] rfl hk
set_option maxHeartbeats 4000000 in
set_option maxRecDepth 100000 in
theorem z_M_stepsBelow_j263 {g : GP} {x : CX} {d : Nat} (X : zX g x RX12 cX12_stepsBelow 11 (d + 1)) (hd : 1 ≤ d) (IH : M_stepsIn_G_IH (xl x) g d) (l0 l1 l2 l3 l4 l5 l6 l8 s0 s1 s2 s3 s4 s5 s6 s7 s8 s9 : Int) (h : Hp) (y : (Int × Int × Hp) ⊕ (Int × Hp)) (hf : M_stepsBelow_j263 (M_stepsIn_G d) d l0 l1 l2 l3 l4 l5 l6 l8 s0 s1 s2 s3 s4 s5 s6 s7 s8 s9 h = some y) (E : Int × Hp → Prop) (hx0 : ∀ e : Int × Hp, E (e) → ZV g x 11 e.2 284 [(7, (0, e.1))] []) (hk : z_sum (fun q : Int × Int × Hp => ZV g x 11 q.2.2 136 [(0, (2, l0)), (1, (0, l1)), (2, (0, l2)), (3, (0, l3)), (4, (0, l4)), (5, (0, l5)), (6, (0, l6)), (7, (0, q.1)), (8, (0, q.2.1))] []) E y) : ZV g x 11 h 263 [(0, (2, l0)), (1, (0, l1)), (2, (0, l2)), (3, (0, l3)), (4, (0, l4)), (5, (0, l5)), (6, (0, l6)), (8, (0, l8))] [(0, s0), (0, s1), (0, s2), (0, s3), (0, s4), (0, s5), (2, s6), (0, s7), (0, s8), (2, s9)] := by
  unfold M_stepsBelow_j263 at hf
  refine z_iload X dX12_stepsBelow_263 6 rfl ?_
  obtain ⟨g12, hf⟩ := gif hf
  obtain ⟨r265, hr265, hf⟩ := obE hf
  refine y_V1 X cv_RX12_339 dX12_stepsBelow_265 g12 (IH.1 s6 s5 s4 s3 s2 s1 s0 l6 h r265 hr265) (as := [(0, s5), (0, s4), (0, s3), (0, s2), (0, s1), (0, s0), (0, l6)]) rfl rfl (Nat.le_of_ble_eq_true rfl) z00 ?_
  obtain ⟨r268, hr268, hf⟩ := obE hf
  refine y_S1 X cs_RX12_343 dX12_stepsBelow_268 (c_M_both d (Nat.zero_le _) s7 r265.1 r265.2 r268 hr268) (as := [(0, s7), (0, r265.1)]) rfl rfl (Nat.le_of_ble_eq_true rfl) z00 ?_
  refine z_iload X dX12_stepsBelow_271 6 rfl ?_
  obtain ⟨g13, hf⟩ := gif hf
  obtain ⟨r273, hr273, hf⟩ := obE hf
  refine y_V1 X cv_RX12_346 dX12_stepsBelow_273 g13 (c_M_best d (Nat.le_trans (by decide) hd) s9 s8 r268 l6 r265.2 r273 hr273) (as := [(0, s8), (0, r268), (0, l6)]) rfl rfl (Nat.le_of_ble_eq_true rfl) z00 ?_
  refine z_istore X dX12_stepsBelow_276 (by decide) (ls' := [(7, (0, r273)), (0, (2, l0)), (1, (0, l1)), (2, (0, l2)), (3, (0, l3)), (4, (0, l4)), (5, (0, l5)), (6, (0, l6)), (8, (0, l8))]) rfl ?_
  exact z_weak [1, 2, 3, 4, 5, 6, 7, 0, 8] rfl (z_M_stepsBelow_j278 X hd IH l0 l1 l2 l3 l4 l5 l6 r273 l8 r265.2 _ hf E hx0 hk)
set_option maxHeartbeats 4000000 in
set_option maxRecDepth 100000 in
theorem z_M_stepsBelow_j252 {g : GP} {x : CX} {d : Nat} (X : zX g x RX12 cX12_stepsBelow 11 (d + 1)) (hd : 1 ≤ d) (IH : M_stepsIn_G_IH (xl x) g d) (l0 l1 l2 l3 l4 l5 l6 l8 l10 s0 s1 s2 s3 s4 s5 s6 s7 s8 : Int) (h : Hp) (y : (Int × Int × Hp) ⊕ (Int × Hp)) (hf : M_stepsBelow_j252 (M_stepsIn_G d) d l0 l1 l2 l3 l4 l5 l6 l8 l10 s0 s1 s2 s3 s4 s5 s6 s7 s8 h = some y) (E : Int × Hp → Prop) (hx0 : ∀ e : Int × Hp, E (e) → ZV g x 11 e.2 284 [(7, (0, e.1))] []) (hk : z_sum (fun q : Int × Int × Hp => ZV g x 11 q.2.2 136 [(0, (2, l0)), (1, (0, l1)), (2, (0, l2)), (3, (0, l3)), (4, (0, l4)), (5, (0, l5)), (6, (0, l6)), (7, (0, q.1)), (8, (0, q.2.1))] []) E y) : ZV g x 11 h 252 [(0, (2, l0)), (1, (0, l1)), (2, (0, l2)), (3, (0, l3)), (4, (0, l4)), (5, (0, l5)), (6, (0, l6)), (8, (0, l8)), (10, (0, l10))] [(0, s0), (0, s1), (0, s2), (0, s3), (0, s4), (2, s5), (0, s6), (0, s7), (2, s8)] := by
  unfold M_stepsBelow_j252 at hf
  refine z_iload X dX12_stepsBelow_252 8 rfl ?_
  refine z_if_eq X dX12_stepsBelow_254 rfl (fun hc254 => ?_) (fun hc254 => ?_)
  · rw [if_pos hc254] at hf
    refine z_iconst X dX12_stepsBelow_262 kc_m1 ?_
    exact z_weak [0, 1, 2, 3, 4, 5, 6, 7] rfl (z_M_stepsBelow_j263 X hd IH l0 l1 l2 l3 l4 l5 l6 l8 ((-1)) s0 s1 s2 s3 s4 s5 s6 s7 s8 h _ hf E hx0 hk)
  · rw [if_neg hc254] at hf
    refine z_iload X dX12_stepsBelow_257 5 rfl ?_
    refine z_goto X dX12_stepsBelow_259 rfl ?_
    exact z_weak [0, 1, 2, 3, 4, 5, 6, 7] rfl (z_M_stepsBelow_j263 X hd IH l0 l1 l2 l3 l4 l5 l6 l8 l5 s0 s1 s2 s3 s4 s5 s6 s7 s8 h _ hf E hx0 hk)
set_option maxHeartbeats 4000000 in
set_option maxRecDepth 100000 in
theorem z_M_stepsBelow_j225 {g : GP} {x : CX} {d : Nat} (X : zX g x RX12 cX12_stepsBelow 11 (d + 1)) (hd : 1 ≤ d) (IH : M_stepsIn_G_IH (xl x) g d) (l0 l1 l2 l3 l4 l5 l6 l8 l10 s0 s1 s2 s3 s4 s5 s6 s7 s8 : Int) (h : Hp) (y : (Int × Int × Hp) ⊕ (Int × Hp)) (hf : M_stepsBelow_j225 (M_stepsIn_G d) d l0 l1 l2 l3 l4 l5 l6 l8 l10 s0 s1 s2 s3 s4 s5 s6 s7 s8 h = some y) (E : Int × Hp → Prop) (hx0 : ∀ e : Int × Hp, E (e) → ZV g x 11 e.2 284 [(7, (0, e.1))] []) (hk : z_sum (fun q : Int × Int × Hp => ZV g x 11 q.2.2 136 [(0, (2, l0)), (1, (0, l1)), (2, (0, l2)), (3, (0, l3)), (4, (0, l4)), (5, (0, l5)), (6, (0, l6)), (7, (0, q.1)), (8, (0, q.2.1))] []) E y) : ZV g x 11 h 225 [(0, (2, l0)), (1, (0, l1)), (2, (0, l2)), (3, (0, l3)), (4, (0, l4)), (5, (0, l5)), (6, (0, l6)), (8, (0, l8)), (10, (0, l10))] [(0, s0), (0, s1), (0, s2), (0, s3), (0, s4), (0, s5), (2, s6), (0, s7), (2, s8)] := by
  unfold M_stepsBelow_j225 at hf
  refine z_iload X dX12_stepsBelow_225 6 rfl ?_
  obtain ⟨g9, hf⟩ := gif hf
  obtain ⟨r227, hr227, hf⟩ := obE hf
  refine y_V1 X cv_RX12_339 dX12_stepsBelow_227 g9 (IH.1 s6 s5 s4 s3 s2 s1 s0 l6 h r227 hr227) (as := [(0, s5), (0, s4), (0, s3), (0, s2), (0, s1), (0, s0), (0, l6)]) rfl rfl (Nat.le_of_ble_eq_true rfl) z00 ?_
  refine z_aload_n X dX12_stepsBelow_230 0 rfl ?_
  refine z_iconst X dX12_stepsBelow_231 kc_1 ?_
  refine z_aload_n X dX12_stepsBelow_232 0 rfl ?_
  obtain ⟨g10, hf⟩ := gif hf
  refine y_get X fl_RX12_110 dX12_stepsBelow_233 g10 ?_
  refine z_iload_n X dX12_stepsBelow_236 1 rfl ?_
  obtain ⟨g11, hf⟩ := gif hf
  refine y_iald X dX12_stepsBelow_237 g11 ?_
  refine z_iload X dX12_stepsBelow_238 7 rfl ?_
  refine z_iload_n X dX12_stepsBelow_240 3 rfl ?_
  refine z_iload X dX12_stepsBelow_241 8 rfl ?_
  refine z_if_eq X dX12_stepsBelow_243 rfl (fun hc243 => ?_) (fun hc243 => ?_)
  · rw [if_pos hc243] at hf
    refine z_iconst X dX12_stepsBelow_251 kc_m1 ?_
    exact (z_M_stepsBelow_j252 X hd IH l0 l1 l2 l3 l4 l5 l6 l8 l10 ((-1)) l3 l8 (r227.2 (r227.2 l0 9) l1) 1 l0 r227.1 s7 s8 r227.2 _ hf E hx0 hk)
  · rw [if_neg hc243] at hf
    refine z_iload X dX12_stepsBelow_246 4 rfl ?_
    refine z_goto X dX12_stepsBelow_248 rfl ?_
    exact (z_M_stepsBelow_j252 X hd IH l0 l1 l2 l3 l4 l5 l6 l8 l10 l4 l3 l8 (r227.2 (r227.2 l0 9) l1) 1 l0 r227.1 s7 s8 r227.2 _ hf E hx0 hk)
set_option maxHeartbeats 4000000 in
set_option maxRecDepth 100000 in
theorem z_M_stepsBelow_j214 {g : GP} {x : CX} {d : Nat} (X : zX g x RX12 cX12_stepsBelow 11 (d + 1)) (hd : 1 ≤ d) (IH : M_stepsIn_G_IH (xl x) g d) (l0 l1 l2 l3 l4 l5 l6 l8 l9 l10 s0 s1 s2 s3 s4 s5 s6 s7 : Int) (h : Hp) (y : (Int × Int × Hp) ⊕ (Int × Hp)) (hf : M_stepsBelow_j214 (M_stepsIn_G d) d l0 l1 l2 l3 l4 l5 l6 l8 l9 l10 s0 s1 s2 s3 s4 s5 s6 s7 h = some y) (E : Int × Hp → Prop) (hx0 : ∀ e : Int × Hp, E (e) → ZV g x 11 e.2 284 [(7, (0, e.1))] []) (hk : z_sum (fun q : Int × Int × Hp => ZV g x 11 q.2.2 136 [(0, (2, l0)), (1, (0, l1)), (2, (0, l2)), (3, (0, l3)), (4, (0, l4)), (5, (0, l5)), (6, (0, l6)), (7, (0, q.1)), (8, (0, q.2.1))] []) E y) : ZV g x 11 h 214 [(0, (2, l0)), (1, (0, l1)), (2, (0, l2)), (3, (0, l3)), (4, (0, l4)), (5, (0, l5)), (6, (0, l6)), (8, (0, l8)), (9, (0, l9)), (10, (0, l10))] [(0, s0), (0, s1), (0, s2), (0, s3), (0, s4), (2, s5), (0, s6), (2, s7)] := by
  unfold M_stepsBelow_j214 at hf
  refine z_iload X dX12_stepsBelow_214 8 rfl ?_
  refine z_if_eq X dX12_stepsBelow_216 rfl (fun hc216 => ?_) (fun hc216 => ?_)
  · rw [if_pos hc216] at hf
    refine z_iconst X dX12_stepsBelow_224 kc_m1 ?_
    exact z_weak [0, 1, 2, 3, 4, 5, 6, 7, 9] rfl (z_M_stepsBelow_j225 X hd IH l0 l1 l2 l3 l4 l5 l6 l8 l10 ((-1)) s0 s1 s2 s3 s4 s5 s6 s7 h _ hf E hx0 hk)
  · rw [if_neg hc216] at hf
    refine z_iload X dX12_stepsBelow_219 5 rfl ?_
    refine z_goto X dX12_stepsBelow_221 rfl ?_
    exact z_weak [0, 1, 2, 3, 4, 5, 6, 7, 9] rfl (z_M_stepsBelow_j225 X hd IH l0 l1 l2 l3 l4 l5 l6 l8 l10 l5 s0 s1 s2 s3 s4 s5 s6 s7 h _ hf E hx0 hk)
set_option maxHeartbeats 4000000 in
set_option maxRecDepth 100000 in
theorem z_M_stepsBelow_L136 {g : GP} {x : CX} {d : Nat} (X : zX g x RX12 cX12_stepsBelow 11 (d + 1)) (hd : 1 ≤ d) (IH : M_stepsIn_G_IH (xl x) g d) (l0 l1 l2 l3 l4 l5 l6 : Int)  (E : Int × Hp → Prop) (hx0 : ∀ e : Int × Hp, E (e) → ZV g x 11 e.2 284 [(7, (0, e.1))] []) (l7 l8 : Int) (h : Hp) (y : (Int × Int × Hp) ⊕ (Int × Hp)) (hf : M_stepsBelow_L136 (M_stepsIn_G d) d l0 l1 l2 l3 l4 l5 l6 l7 l8 h = some y) (hk : z_sum (fun q : Int × Int × Hp => ZV g x 11 q.2.2 136 [(0, (2, l0)), (1, (0, l1)), (2, (0, l2)), (3, (0, l3)), (4, (0, l4)), (5, (0, l5)), (6, (0, l6)), (7, (0, q.1)), (8, (0, q.2.1))] []) E y) : ZV g x 11 h 136 [(0, (2, l0)), (1, (0, l1)), (2, (0, l2)), (3, (0, l3)), (4, (0, l4)), (5, (0, l5)), (6, (0, l6)), (7, (0, l7)), (8, (0, l8))] [] := by
  unfold M_stepsBelow_L136 at hf
  refine z_iload X dX12_stepsBelow_136 8 rfl ?_
  refine z_iload_n X dX12_stepsBelow_138 3 rfl ?_
  refine z_icmp_gt X dX12_stepsBelow_139 rfl (fun hc139 => ?_) (fun hc139 => ?_)
  · have hf := ift hc139 hf
    cases hf
    exact z_weak [7] rfl (hx0 _ hk)
  · have hf := iff' hc139 hf
    refine z_aload_n X dX12_stepsBelow_142 0 rfl ?_
    refine z_iload_n X dX12_stepsBelow_143 1 rfl ?_
    refine z_iload_n X dX12_stepsBelow_144 2 rfl ?_
    refine z_iload X dX12_stepsBelow_145 8 rfl ?_
    refine z_iload_n X dX12_stepsBelow_147 3 rfl ?_
    refine z_iload X dX12_stepsBelow_148 4 rfl ?_
    refine z_iload X dX12_stepsBelow_150 5 rfl ?_
    obtain ⟨g4, hf⟩ := gif hf
    obtain ⟨r152, hr152, hf⟩ := obE hf
    refine y_V1 X cv_RX12_314 dX12_stepsBelow_152 g4 (c_M_waysSplit d l0 l1 l2 l8 l3 l4 l5 h r152 hr152) (as := [(0, l1), (0, l2), (0, l8), (0, l3), (0, l4), (0, l5)]) rfl rfl (Nat.le_of_ble_eq_true rfl) z00 ?_
    refine z_lconst0 X dX12_stepsBelow_155 ?_
    refine z_l_ne X dX12_stepsBelow_156 dX12_stepsBelow_157 rfl (fun hc156 => ?_) (fun hc156 => ?_)
    · have hf := iff' hc156 hf
      refine z_aload_n X dX12_stepsBelow_163 0 rfl ?_
      refine y_get X fl_RX12_167 dX12_stepsBelow_164 g4 ?_
      refine z_aload_n X dX12_stepsBelow_167 0 rfl ?_
      refine y_get X fl_RX12_107 dX12_stepsBelow_168 g4 ?_
      refine z_iload_n X dX12_stepsBelow_171 1 rfl ?_
      obtain ⟨g5, hf⟩ := gif hf
      refine y_iald X dX12_stepsBelow_172 g5 ?_
      obtain ⟨g6, hf⟩ := gif hf
      refine y_zald X dX12_stepsBelow_173 g6 ?_
      refine z_istore X dX12_stepsBelow_174 (by decide) (ls' := [(9, (0, r152.2 (r152.2 l0 14) (r152.2 (r152.2 l0 8) l1))), (0, (2, l0)), (1, (0, l1)), (2, (0, l2)), (3, (0, l3)), (4, (0, l4)), (5, (0, l5)), (6, (0, l6)), (7, (0, l7)), (8, (0, l8))]) rfl ?_
      refine z_aload_n X dX12_stepsBelow_176 1 rfl ?_
      refine y_get X fl_RX12_167 dX12_stepsBelow_177 g4 ?_
      refine z_aload_n X dX12_stepsBelow_180 1 rfl ?_
      refine y_get X fl_RX12_110 dX12_stepsBelow_181 g4 ?_
      refine z_iload_n X dX12_stepsBelow_184 2 rfl ?_
      obtain ⟨g7, hf⟩ := gif hf
      refine y_iald X dX12_stepsBelow_185 g7 ?_
      obtain ⟨g8, hf⟩ := gif hf
      refine y_zald X dX12_stepsBelow_186 g8 ?_
      refine z_istore X dX12_stepsBelow_187 (by decide) (ls' := [(10, (0, r152.2 (r152.2 l0 14) (r152.2 (r152.2 l0 9) l1))), (9, (0, r152.2 (r152.2 l0 14) (r152.2 (r152.2 l0 8) l1))), (0, (2, l0)), (1, (0, l1)), (2, (0, l2)), (3, (0, l3)), (4, (0, l4)), (5, (0, l5)), (6, (0, l6)), (7, (0, l7)), (8, (0, l8))]) rfl ?_
      refine z_aload_n X dX12_stepsBelow_189 2 rfl ?_
      refine z_iload X dX12_stepsBelow_190 9 rfl ?_
      refine z_aload_n X dX12_stepsBelow_192 2 rfl ?_
      refine z_iconst X dX12_stepsBelow_193 kc_1 ?_
      refine z_aload_n X dX12_stepsBelow_194 2 rfl ?_
      refine y_get X fl_RX12_107 dX12_stepsBelow_195 g4 ?_
      refine z_iload_n X dX12_stepsBelow_198 3 rfl ?_
      refine y_iald X dX12_stepsBelow_199 g5 ?_
      refine z_iload_n X dX12_stepsBelow_200 4 rfl ?_
      refine z_iload X dX12_stepsBelow_201 10 rfl ?_
      refine z_iload X dX12_stepsBelow_203 1 rfl ?_
      refine z_if_eq X dX12_stepsBelow_205 rfl (fun hc205 => ?_) (fun hc205 => ?_)
      · rw [if_pos hc205] at hf
        refine z_iconst X dX12_stepsBelow_213 kc_m1 ?_
        exact z_weak [2, 3, 4, 5, 6, 7, 8, 10, 1, 0] rfl (z_M_stepsBelow_j214 X hd IH l0 l1 l2 l3 l4 l5 l6 l8 (r152.2 (r152.2 l0 14) (r152.2 (r152.2 l0 8) l1)) (r152.2 (r152.2 l0 14) (r152.2 (r152.2 l0 9) l1)) ((-1)) l8 l2 (r152.2 (r152.2 l0 8) l1) 1 l0 l7 l0 r152.2 _ hf E hx0 hk)
      · rw [if_neg hc205] at hf
        refine z_iload X dX12_stepsBelow_208 6 rfl ?_
        refine z_goto X dX12_stepsBelow_210 rfl ?_
        exact z_weak [2, 3, 4, 5, 6, 7, 8, 10, 1, 0] rfl (z_M_stepsBelow_j214 X hd IH l0 l1 l2 l3 l4 l5 l6 l8 (r152.2 (r152.2 l0 14) (r152.2 (r152.2 l0 8) l1)) (r152.2 (r152.2 l0 14) (r152.2 (r152.2 l0 9) l1)) l4 l8 l2 (r152.2 (r152.2 l0 8) l1) 1 l0 l7 l0 r152.2 _ hf E hx0 hk)
    · have hf := ift hc156 hf
      refine z_goto X dX12_stepsBelow_160 rfl ?_
      exact (z_M_stepsBelow_j278 X hd IH l0 l1 l2 l3 l4 l5 l6 l7 l8 r152.2 _ hf E hx0 hk)
set_option maxHeartbeats 4000000 in
set_option maxRecDepth 100000 in
theorem z_M_stepsBelow_j62 {g : GP} {x : CX} {d : Nat} (X : zX g x RX12 cX12_stepsBelow 11 (d + 1)) (hd : 1 ≤ d) (IH : M_stepsIn_G_IH (xl x) g d) (l0 l1 l2 l3 l6 l7 l8 s0 : Int) (h : Hp) (y : (Int × Int × Hp) ⊕ (Int × Hp)) (hf : M_stepsBelow_j62 (M_stepsIn_G d) d l0 l1 l2 l3 l6 l7 l8 s0 h = some y) (E : Int × Hp → Prop) (hx0 : ∀ e : Int × Hp, E (e) → ZV g x 11 e.2 86 [(7, (0, e.1))] []) (hk : z_sum (fun q : Int × Int × Hp => ZV g x 11 q.2.2 16 [(0, (2, l0)), (1, (0, l1)), (2, (0, l2)), (3, (0, l3)), (6, (0, l6)), (7, (0, q.1)), (8, (0, q.2.1))] []) E y) : ZV g x 11 h 62 [(0, (2, l0)), (1, (0, l1)), (2, (0, l2)), (3, (0, l3)), (6, (0, l6)), (7, (0, l7)), (8, (0, l8))] [(0, s0)] := by
  unfold M_stepsBelow_j62 at hf
  refine z_istore X dX12_stepsBelow_62 (by decide) (ls' := [(9, (0, s0)), (0, (2, l0)), (1, (0, l1)), (2, (0, l2)), (3, (0, l3)), (6, (0, l6)), (7, (0, l7)), (8, (0, l8))]) rfl ?_
  refine z_aload_n X dX12_stepsBelow_64 1 rfl ?_
  refine z_iload X dX12_stepsBelow_65 6 rfl ?_
  refine z_iload X dX12_stepsBelow_67 0 rfl ?_
  refine z_iconst X dX12_stepsBelow_69 kc_1 ?_
  obtain ⟨r70, hr70, hf⟩ := obE hf
  refine y_S1 X cs_RX12_343 dX12_stepsBelow_70 (c_M_both d (Nat.zero_le _) s0 1 h r70 hr70) (as := [(0, s0), (0, 1)]) rfl rfl (Nat.le_of_ble_eq_true rfl) z00 ?_
  refine z_iload X dX12_stepsBelow_73 5 rfl ?_
  obtain ⟨g17, hf⟩ := gif hf
  obtain ⟨r75, hr75, hf⟩ := obE hf
  refine y_V1 X cv_RX12_346 dX12_stepsBelow_75 g17 (c_M_best d (Nat.le_trans (by decide) hd) l0 l7 r70 l6 h r75 hr75) (as := [(0, l7), (0, r70), (0, l6)]) rfl rfl (Nat.le_of_ble_eq_true rfl) z00 ?_
  refine z_istore X dX12_stepsBelow_78 (by decide) (ls' := [(7, (0, r75)), (9, (0, s0)), (0, (2, l0)), (1, (0, l1)), (2, (0, l2)), (3, (0, l3)), (6, (0, l6)), (8, (0, l8))]) rfl ?_
  refine z_iinc X dX12_stepsBelow_80 7 rfl (by decide) (ls' := [(8, (0, w32 (l8 + 1))), (7, (0, r75)), (9, (0, s0)), (0, (2, l0)), (1, (0, l1)), (2, (0, l2)), (3, (0, l3)), (6, (0, l6))]) rfl ?_
  refine z_goto X dX12_stepsBelow_83 rfl ?_
  cases hf
  exact z_weak [3, 4, 5, 6, 7, 1, 0] rfl hk
set_option maxHeartbeats 4000000 in
set_option maxRecDepth 100000 in
theorem z_M_stepsBelow_L16 {g : GP} {x : CX} {d : Nat} (X : zX g x RX12 cX12_stepsBelow 11 (d + 1)) (hd : 1 ≤ d) (IH : M_stepsIn_G_IH (xl x) g d) (l0 l1 l2 l3 l6 : Int)  (E : Int × Hp → Prop) (hx0 : ∀ e : Int × Hp, E (e) → ZV g x 11 e.2 86 [(7, (0, e.1))] []) (l7 l8 : Int) (h : Hp) (y : (Int × Int × Hp) ⊕ (Int × Hp)) (hf : M_stepsBelow_L16 (M_stepsIn_G d) d l0 l1 l2 l3 l6 l7 l8 h = some y) (hk : z_sum (fun q : Int × Int × Hp => ZV g x 11 q.2.2 16 [(0, (2, l0)), (1, (0, l1)), (2, (0, l2)), (3, (0, l3)), (6, (0, l6)), (7, (0, q.1)), (8, (0, q.2.1))] []) E y) : ZV g x 11 h 16 [(0, (2, l0)), (1, (0, l1)), (2, (0, l2)), (3, (0, l3)), (6, (0, l6)), (7, (0, l7)), (8, (0, l8))] [] := by
  unfold M_stepsBelow_L16 at hf
  refine z_iload X dX12_stepsBelow_16 6 rfl ?_
  refine z_aload_n X dX12_stepsBelow_18 0 rfl ?_
  obtain ⟨g15, hf⟩ := gif hf
  refine y_get X fl_RX12_11 dX12_stepsBelow_19 g15 ?_
  refine z_icmp_ge X dX12_stepsBelow_22 rfl (fun hc22 => ?_) (fun hc22 => ?_)
  · have hf := ift hc22 hf
    cases hf
    exact z_weak [5] rfl (hx0 _ hk)
  · have hf := iff' hc22 hf
    refine z_aload_n X dX12_stepsBelow_25 0 rfl ?_
    refine z_iload X dX12_stepsBelow_26 6 rfl ?_
    refine z_aload_n X dX12_stepsBelow_28 0 rfl ?_
    refine y_get X fl_RX12_101 dX12_stepsBelow_29 g15 ?_
    refine z_iload_n X dX12_stepsBelow_32 1 rfl ?_
    obtain ⟨g16, hf⟩ := gif hf
    refine y_iald X dX12_stepsBelow_33 g16 ?_
    refine z_iconst X dX12_stepsBelow_34 kc_0 ?_
    obtain ⟨r35, hr35, hf⟩ := obE hf
    refine y_V1 X cv_RX12_296 dX12_stepsBelow_35 g15 (c_M_mayGo d (Nat.le_trans (by decide) hd) l0 l8 (h (h l0 6) l1) 0 h r35 hr35) (as := [(0, l8), (0, h (h l0 6) l1), (0, 0)]) rfl rfl (Nat.le_of_ble_eq_true rfl) z00 ?_
    refine z_if_eq X dX12_stepsBelow_38 rfl (fun hc38 => ?_) (fun hc38 => ?_)
    · have hf := ift hc38 hf
      refine z_iconst X dX12_stepsBelow_61 kc_m1 ?_
      exact (z_M_stepsBelow_j62 X hd IH l0 l1 l2 l3 l6 l7 l8 ((-1)) h _ hf E hx0 hk)
    · have hf := iff' hc38 hf
      refine z_aload_n X dX12_stepsBelow_41 0 rfl ?_
      refine z_iconst X dX12_stepsBelow_42 kc_1 ?_
      refine z_aload_n X dX12_stepsBelow_43 0 rfl ?_
      refine z_iload X dX12_stepsBelow_44 6 rfl ?_
      obtain ⟨r46, hr46, hf⟩ := obE hf
      refine y_V1 X cv_RX12_268 dX12_stepsBelow_46 g15 (c_M_root d (Nat.zero_le _) l0 l8 h r46 hr46) (as := [(0, l8)]) rfl rfl (Nat.le_of_ble_eq_true rfl) z00 ?_
      refine z_iload_n X dX12_stepsBelow_49 2 rfl ?_
      refine z_iload_n X dX12_stepsBelow_50 3 rfl ?_
      refine z_iconst X dX12_stepsBelow_51 kc_m1 ?_
      refine z_iconst X dX12_stepsBelow_52 kc_m1 ?_
      refine z_iload X dX12_stepsBelow_53 4 rfl ?_
      obtain ⟨r55, hr55, hf⟩ := obE hf
      refine y_V1 X cv_RX12_339 dX12_stepsBelow_55 g15 (IH.1 l0 1 r46 l2 l3 ((-1)) ((-1)) l6 h r55 hr55) (as := [(0, 1), (0, r46), (0, l2), (0, l3), (0, (-1)), (0, (-1)), (0, l6)]) rfl rfl (Nat.le_of_ble_eq_true rfl) z00 ?_
      refine z_goto X dX12_stepsBelow_58 rfl ?_
      exact (z_M_stepsBelow_j62 X hd IH l0 l1 l2 l3 l6 l7 l8 r55.1 r55.2 _ hf E hx0 hk)
set_option maxHeartbeats 4000000 in
set_option maxRecDepth 100000 in
theorem cb_M_stepsBelow {l : Launch} {g : GP} {d : Nat} (IH : M_stepsIn_G_IH l g d) (hd : 1 ≤ d) (l0 l1 l2 l3 l4 l5 l6 : Int) (h : Hp) (y : Int × Hp) (hf : M_stepsBelow_b (M_stepsIn_G d) d l0 l1 l2 l3 l4 l5 l6 h = some y) : zM l yX12_stepsBelow cX12_stepsBelow 11 (some .int) (d + 1) 0 0 g 157 h [(2, l0), (0, l1), (0, l2), (0, l3), (0, l4), (0, l5), (0, l6)] 157 y.2 (some (0, y.1)) := by
  refine z_start (by decide) (Nat.le_of_ble_eq_true rfl) (fun x X hK _ _ _ hl => ?_)
  have IH : M_stepsIn_G_IH (xl x) g d := hl ▸ IH
  show ZV g x 11 h 0 [(0, (2, l0)), (1, (0, l1)), (2, (0, l2)), (3, (0, l3)), (4, (0, l4)), (5, (0, l5)), (6, (0, l6))] []
  unfold M_stepsBelow_b at hf
  refine z_aload_n X dX12_stepsBelow_0 0 rfl ?_
  obtain ⟨g1, hf⟩ := gif hf
  refine y_get X fl_RX12_98 dX12_stepsBelow_1 g1 ?_
  refine z_iload_n X dX12_stepsBelow_4 1 rfl ?_
  obtain ⟨g2, hf⟩ := gif hf
  refine y_iald X dX12_stepsBelow_5 g2 ?_
  refine z_iconst X dX12_stepsBelow_6 kc_4 ?_
  refine z_icmp_ne X dX12_stepsBelow_7 rfl (fun hc7 => ?_) (fun hc7 => ?_)
  · have hf := iff' hc7 hf
    refine z_aload_n X dX12_stepsBelow_89 0 rfl ?_
    refine y_get X fl_RX12_98 dX12_stepsBelow_90 g1 ?_
    refine z_iload_n X dX12_stepsBelow_93 1 rfl ?_
    refine y_iald X dX12_stepsBelow_94 g2 ?_
    refine z_if_eq X dX12_stepsBelow_95 rfl (fun hc95 => ?_) (fun hc95 => ?_)
    · have hf := ift hc95 hf
      refine z_aload_n X dX12_stepsBelow_100 0 rfl ?_
      refine y_get X fl_RX12_110 dX12_stepsBelow_101 g1 ?_
      refine z_iload_n X dX12_stepsBelow_104 1 rfl ?_
      obtain ⟨g3, hf⟩ := gif hf
      refine y_iald X dX12_stepsBelow_105 g3 ?_
      refine z_iconst X dX12_stepsBelow_106 kc_m1 ?_
      refine z_icmp_ne X dX12_stepsBelow_107 rfl (fun hc107 => ?_) (fun hc107 => ?_)
      · have hf := iff' hc107 hf
        refine z_iconst X dX12_stepsBelow_130 kc_m1 ?_
        refine z_istore X dX12_stepsBelow_131 (by decide) (ls' := [(7, (0, (-1))), (0, (2, l0)), (1, (0, l1)), (2, (0, l2)), (3, (0, l3)), (4, (0, l4)), (5, (0, l5)), (6, (0, l6))]) rfl ?_
        refine z_iload_n X dX12_stepsBelow_133 3 rfl ?_
        refine z_istore X dX12_stepsBelow_134 (by decide) (ls' := [(8, (0, l2)), (7, (0, (-1))), (0, (2, l0)), (1, (0, l1)), (2, (0, l2)), (3, (0, l3)), (4, (0, l4)), (5, (0, l5)), (6, (0, l6))]) rfl ?_
        obtain ⟨q136, hq136, hf⟩ := obE hf
        have hx136_0 : ∀ e284 : Int × Hp, (e284 : Int × Hp) = q136 → ZV g x 11 e284.2 284 [(7, (0, e284.1))] [] := by
          intro e284 hq
          subst hq
          refine z_iload X dX12_stepsBelow_284 0 rfl ?_
          cases hf
          exact z_iret X hK dX12_stepsBelow_286
        exact z_weak [2, 3, 4, 5, 6, 7, 8, 1, 0] rfl (z_loop (Z := (fun q : Int × Int × Hp => ZV g x 11 q.2.2 136 [(0, (2, l0)), (1, (0, l1)), (2, (0, l2)), (3, (0, l3)), (4, (0, l4)), (5, (0, l5)), (6, (0, l6)), (7, (0, q.1)), (8, (0, q.2.1))] [])) (E := fun q => q = q136) (fun q y hb hk => z_M_stepsBelow_L136 X hd IH l0 l1 l2 l3 l4 l5 l6 (fun q => q = q136) hx136_0 q.1 q.2.1 q.2.2 y hb hk) LN ((-1), l2, h) q136 hq136 rfl)
      · have hf := ift hc107 hf
        refine z_aload_n X dX12_stepsBelow_110 0 rfl ?_
        refine z_iconst X dX12_stepsBelow_111 kc_1 ?_
        refine z_aload_n X dX12_stepsBelow_112 0 rfl ?_
        refine y_get X fl_RX12_107 dX12_stepsBelow_113 g1 ?_
        refine z_iload_n X dX12_stepsBelow_116 1 rfl ?_
        obtain ⟨g14, hf⟩ := gif hf
        refine y_iald X dX12_stepsBelow_117 g14 ?_
        refine z_iload_n X dX12_stepsBelow_118 2 rfl ?_
        refine z_iload_n X dX12_stepsBelow_119 3 rfl ?_
        refine z_iload X dX12_stepsBelow_120 4 rfl ?_
        refine z_iload X dX12_stepsBelow_122 5 rfl ?_
        refine z_iload X dX12_stepsBelow_124 6 rfl ?_
        obtain ⟨r126, hr126, hf⟩ := obE hf
        refine y_V1 X cv_RX12_339 dX12_stepsBelow_126 g1 (IH.1 l0 1 (h (h l0 8) l1) l2 l3 l4 l5 l6 h r126 hr126) (as := [(0, 1), (0, h (h l0 8) l1), (0, l2), (0, l3), (0, l4), (0, l5), (0, l6)]) rfl rfl (Nat.le_of_ble_eq_true rfl) z00 ?_
        cases hf
        exact z_iret X hK dX12_stepsBelow_129
    · have hf := iff' hc95 hf
      refine z_iconst X dX12_stepsBelow_98 kc_0 ?_
      cases hf
      exact z_iret X hK dX12_stepsBelow_99
  · have hf := ift hc7 hf
    refine z_iconst X dX12_stepsBelow_10 kc_m1 ?_
    refine z_istore X dX12_stepsBelow_11 (by decide) (ls' := [(7, (0, (-1))), (0, (2, l0)), (1, (0, l1)), (2, (0, l2)), (3, (0, l3)), (4, (0, l4)), (5, (0, l5)), (6, (0, l6))]) rfl ?_
    refine z_iconst X dX12_stepsBelow_13 kc_0 ?_
    refine z_istore X dX12_stepsBelow_14 (by decide) (ls' := [(8, (0, 0)), (7, (0, (-1))), (0, (2, l0)), (1, (0, l1)), (2, (0, l2)), (3, (0, l3)), (4, (0, l4)), (5, (0, l5)), (6, (0, l6))]) rfl ?_
    obtain ⟨q16, hq16, hf⟩ := obE hf
    have hx16_0 : ∀ e86 : Int × Hp, (e86 : Int × Hp) = q16 → ZV g x 11 e86.2 86 [(7, (0, e86.1))] [] := by
      intro e86 hq
      subst hq
      refine z_iload X dX12_stepsBelow_86 0 rfl ?_
      cases hf
      exact z_iret X hK dX12_stepsBelow_88
    exact z_weak [2, 3, 4, 5, 8, 1, 0] rfl (z_loop (Z := (fun q : Int × Int × Hp => ZV g x 11 q.2.2 16 [(0, (2, l0)), (1, (0, l1)), (2, (0, l2)), (3, (0, l3)), (6, (0, l6)), (7, (0, q.1)), (8, (0, q.2.1))] [])) (E := fun q => q = q16) (fun q y hb hk => z_M_stepsBelow_L16 X hd IH l0 l1 l2 l3 l6 (fun q => q = q16) hx16_0 q.1 q.2.1 q.2.2 y hb hk) LN ((-1), 0, h) q16 hq16 rfl)
set_option maxHeartbeats 4000000 in
set_option maxRecDepth 100000 in
theorem M_stepsIn_G_ok (l : Launch) (g : GP) : ∀ d, M_stepsIn_G_IH l g d
  | 0 => ⟨fun _ _ _ _ _ _ _ _ h y hf => (nomatch (show none = some y from hf)), fun _ _ _ _ _ _ _ h y hf => (nomatch (show none = some y from hf)), fun _ _ _ _ _ _ _ h y hf => (nomatch (show none = some y from hf))⟩
  | d + 1 => by
    have IH := M_stepsIn_G_ok l g d
    refine ⟨fun l0 l1 l2 l3 l4 l5 l6 l7 h y hf => ?_, fun l0 l1 l2 l3 l4 l5 l6 h y hf => ?_, fun l0 l1 l2 l3 l4 l5 l6 h y hf => ?_⟩
    · obtain ⟨hd, hf⟩ := gif (show (if 1 ≤ d then M_stepsIn_b (M_stepsIn_G d) d l0 l1 l2 l3 l4 l5 l6 l7 h else none) = some y from hf)
      exact cb_M_stepsIn IH hd l0 l1 l2 l3 l4 l5 l6 l7 h y hf
    · obtain ⟨hd, hf⟩ := gif (show (if 1 ≤ d then M_stepsAbove_b (M_stepsIn_G d) d l0 l1 l2 l3 l4 l5 l6 h else none) = some y from hf)
      exact cb_M_stepsAbove IH hd l0 l1 l2 l3 l4 l5 l6 h y hf
    · obtain ⟨hd, hf⟩ := gif (show (if 1 ≤ d then M_stepsBelow_b (M_stepsIn_G d) d l0 l1 l2 l3 l4 l5 l6 h else none) = some y from hf)
      exact cb_M_stepsBelow IH hd l0 l1 l2 l3 l4 l5 l6 h y hf
set_option maxHeartbeats 4000000 in
set_option maxRecDepth 100000 in
theorem c_M_stepsIn {l : Launch} {g : GP} (d : Nat) (l0 l1 l2 l3 l4 l5 l6 l7 : Int) (h : Hp) (y : Int × Hp) (hf : M_stepsIn d l0 l1 l2 l3 l4 l5 l6 l7 h = some y) : zM l yX12_stepsIn cX12_stepsIn 10 (some .int) d 0 0 g 157 h [(2, l0), (0, l1), (0, l2), (0, l3), (0, l4), (0, l5), (0, l6), (0, l7)] 157 y.2 (some (0, y.1)) := (M_stepsIn_G_ok l g d).1 l0 l1 l2 l3 l4 l5 l6 l7 h y hf
set_option maxHeartbeats 4000000 in
set_option maxRecDepth 100000 in
theorem c_M_stepsAbove {l : Launch} {g : GP} (d : Nat) (l0 l1 l2 l3 l4 l5 l6 : Int) (h : Hp) (y : Int × Hp) (hf : M_stepsAbove d l0 l1 l2 l3 l4 l5 l6 h = some y) : zM l yX12_stepsAbove cX12_stepsAbove 11 (some .int) d 0 0 g 157 h [(2, l0), (0, l1), (0, l2), (0, l3), (0, l4), (0, l5), (0, l6)] 157 y.2 (some (0, y.1)) := (M_stepsIn_G_ok l g d).2.1 l0 l1 l2 l3 l4 l5 l6 h y hf
set_option maxHeartbeats 4000000 in
set_option maxRecDepth 100000 in
theorem c_M_stepsBelow {l : Launch} {g : GP} (d : Nat) (l0 l1 l2 l3 l4 l5 l6 : Int) (h : Hp) (y : Int × Hp) (hf : M_stepsBelow d l0 l1 l2 l3 l4 l5 l6 h = some y) : zM l yX12_stepsBelow cX12_stepsBelow 11 (some .int) d 0 0 g 157 h [(2, l0), (0, l1), (0, l2), (0, l3), (0, l4), (0, l5), (0, l6)] 157 y.2 (some (0, y.1)) := (M_stepsIn_G_ok l g d).2.2 l0 l1 l2 l3 l4 l5 l6 h y hf
set_option maxHeartbeats 4000000 in
set_option maxRecDepth 100000 in
theorem z_M_bitsOf_j29 {g : GP} {x : CX} {d : Nat} (X : zX g x RX12 cX12_bitsOf 4 (d + 1)) (hd : 0 ≤ d) (l0 l1 l3 s0 s1 : Int) (h : Hp) (y : (Int × Int) ⊕ (Int)) (hf : M_bitsOf_j29 l0 l1 l3 s0 s1 h = some y) (E : Int → Prop) (hx0 : ∀ e : Int, E (e) → ZV g x 4 h 37 [(2, (0, e))] []) (hk : z_sum (fun q : Int × Int => ZV g x 4 h 4 [(0, (2, l0)), (1, (0, l1)), (2, (0, q.1)), (3, (0, q.2))] []) E y) : ZV g x 4 h 29 [(0, (2, l0)), (1, (0, l1)), (3, (0, l3))] [(0, s0), (0, s1)] := by
  unfold M_bitsOf_j29 at hf
  refine z_ior X dX12_bitsOf_29 ?_
  refine z_istore_n X dX12_bitsOf_30 (by decide) (ls' := [(2, (0, i_or s1 s0)), (0, (2, l0)), (1, (0, l1)), (3, (0, l3))]) rfl ?_
  refine z_iinc X dX12_bitsOf_31 3 rfl (by decide) (ls' := [(3, (0, w32 (l3 + 1))), (2, (0, i_or s1 s0)), (0, (2, l0)), (1, (0, l1))]) rfl ?_
  refine z_goto X dX12_bitsOf_34 rfl ?_
  cases hf
  exact z_weak [2, 3, 1, 0] rfl hk
set_option maxHeartbeats 4000000 in
set_option maxRecDepth 100000 in
theorem z_M_bitsOf_L4 {g : GP} {x : CX} {d : Nat} (X : zX g x RX12 cX12_bitsOf 4 (d + 1)) (hd : 0 ≤ d) (l0 l1 : Int) (h : Hp) (E : Int → Prop) (hx0 : ∀ e : Int, E (e) → ZV g x 4 h 37 [(2, (0, e))] []) (l2 l3 : Int) (y : (Int × Int) ⊕ (Int)) (hf : M_bitsOf_L4 l0 l1 h l2 l3 = some y) (hk : z_sum (fun q : Int × Int => ZV g x 4 h 4 [(0, (2, l0)), (1, (0, l1)), (2, (0, q.1)), (3, (0, q.2))] []) E y) : ZV g x 4 h 4 [(0, (2, l0)), (1, (0, l1)), (2, (0, l2)), (3, (0, l3))] [] := by
  unfold M_bitsOf_L4 at hf
  refine z_iload_n X dX12_bitsOf_4 3 rfl ?_
  refine z_aload_n X dX12_bitsOf_5 0 rfl ?_
  obtain ⟨g1, hf⟩ := gif hf
  refine y_get X fl_RX12_11 dX12_bitsOf_6 g1 ?_
  refine z_icmp_ge X dX12_bitsOf_9 rfl (fun hc9 => ?_) (fun hc9 => ?_)
  · have hf := ift hc9 hf
    cases hf
    exact z_weak [2] rfl (hx0 _ hk)
  · have hf := iff' hc9 hf
    refine z_iload_n X dX12_bitsOf_12 2 rfl ?_
    refine z_aload_n X dX12_bitsOf_13 0 rfl ?_
    refine z_iload_n X dX12_bitsOf_14 3 rfl ?_
    obtain ⟨r15, hr15, hf⟩ := obE hf
    refine y_V1 X cv_RX12_265 dX12_bitsOf_15 g1 (c_M_isGuest d (Nat.zero_le _) l0 l3 h r15 hr15) (as := [(0, l3)]) rfl rfl (Nat.le_of_ble_eq_true rfl) z00 ?_
    refine z_iload_n X dX12_bitsOf_18 1 rfl ?_
    refine z_icmp_ne X dX12_bitsOf_19 rfl (fun hc19 => ?_) (fun hc19 => ?_)
    · rw [if_neg hc19] at hf
      refine z_iconst X dX12_bitsOf_28 kc_0 ?_
      exact z_weak [0, 1, 3] rfl (z_M_bitsOf_j29 X hd l0 l1 l3 0 l2 h _ hf E hx0 hk)
    · rw [if_pos hc19] at hf
      refine z_iconst X dX12_bitsOf_22 kc_1 ?_
      refine z_iload_n X dX12_bitsOf_23 3 rfl ?_
      refine z_ishl X dX12_bitsOf_24 ?_
      refine z_goto X dX12_bitsOf_25 rfl ?_
      exact z_weak [0, 1, 3] rfl (z_M_bitsOf_j29 X hd l0 l1 l3 (i_shl 1 l3) l2 h _ hf E hx0 hk)
set_option maxHeartbeats 4000000 in
set_option maxRecDepth 100000 in
theorem c_M_bitsOf {l : Launch} {g : GP} (d : Nat) (hd : 1 ≤ d) (l0 l1 : Int) (h : Hp) (y : Int) (hf : M_bitsOf l0 l1 h = some y) : zM l yX12_bitsOf cX12_bitsOf 4 (some .int) d 0 0 g 157 h [(2, l0), (0, l1)] 157 h (some (0, y)) := by
  obtain ⟨d, rfl⟩ : ∃ k, d = k + 1 := ⟨d - 1, by omega⟩
  replace hd : 0 ≤ d := Nat.le_of_succ_le_succ hd
  refine z_start (by decide) (Nat.le_of_ble_eq_true rfl) (fun x X hK _ _ _ hl => ?_)
  show ZV g x 4 h 0 [(0, (2, l0)), (1, (0, l1))] []
  unfold M_bitsOf at hf
  refine z_iconst X dX12_bitsOf_0 kc_0 ?_
  refine z_istore_n X dX12_bitsOf_1 (by decide) (ls' := [(2, (0, 0)), (0, (2, l0)), (1, (0, l1))]) rfl ?_
  refine z_iconst X dX12_bitsOf_2 kc_0 ?_
  refine z_istore_n X dX12_bitsOf_3 (by decide) (ls' := [(3, (0, 0)), (2, (0, 0)), (0, (2, l0)), (1, (0, l1))]) rfl ?_
  obtain ⟨q4, hq4, hf⟩ := obE hf
  have hx4_0 : ∀ e37 : Int, (e37 : Int) = q4 → ZV g x 4 h 37 [(2, (0, e37))] [] := by
    intro e37 hq
    subst hq
    refine z_iload_n X dX12_bitsOf_37 0 rfl ?_
    cases hf
    exact z_iret X hK dX12_bitsOf_38
  exact z_weak [2, 3, 1, 0] rfl (z_loop (Z := (fun q : Int × Int => ZV g x 4 h 4 [(0, (2, l0)), (1, (0, l1)), (2, (0, q.1)), (3, (0, q.2))] [])) (E := fun q => q = q4) (fun q y hb hk => z_M_bitsOf_L4 X hd l0 l1 h (fun q => q = q4) hx4_0 q.1 q.2 y hb hk) LN (0, 0) q4 hq4 rfl)
set_option maxHeartbeats 4000000 in
set_option maxRecDepth 100000 in
theorem z_M_lettersOfAll_j35 {g : GP} {x : CX} {d : Nat} (X : zX g x RX12 cX12_lettersOfAll 3 d) (l0 l2 s0 s1 : Int) (h : Hp) (y : (Int × Int) ⊕ (Int)) (hf : M_lettersOfAll_j35 l0 l2 s0 s1 h = some y) (E : Int → Prop) (hx0 : ∀ e : Int, E (e) → ZV g x 3 h 43 [(1, (0, e))] []) (hk : z_sum (fun q : Int × Int => ZV g x 3 h 4 [(0, (2, l0)), (1, (0, q.1)), (2, (0, q.2))] []) E y) : ZV g x 3 h 35 [(0, (2, l0)), (2, (0, l2))] [(0, s0), (0, s1)] := by
  unfold M_lettersOfAll_j35 at hf
  refine z_ior X dX12_lettersOfAll_35 ?_
  refine z_istore_n X dX12_lettersOfAll_36 (by decide) (ls' := [(1, (0, i_or s1 s0)), (0, (2, l0)), (2, (0, l2))]) rfl ?_
  refine z_iinc X dX12_lettersOfAll_37 2 rfl (by decide) (ls' := [(2, (0, w32 (l2 + 1))), (1, (0, i_or s1 s0)), (0, (2, l0))]) rfl ?_
  refine z_goto X dX12_lettersOfAll_40 rfl ?_
  cases hf
  exact z_weak [2, 1, 0] rfl hk
set_option maxHeartbeats 4000000 in
set_option maxRecDepth 100000 in
theorem z_M_lettersOfAll_L4 {g : GP} {x : CX} {d : Nat} (X : zX g x RX12 cX12_lettersOfAll 3 d) (l0 : Int) (h : Hp) (E : Int → Prop) (hx0 : ∀ e : Int, E (e) → ZV g x 3 h 43 [(1, (0, e))] []) (l1 l2 : Int) (y : (Int × Int) ⊕ (Int)) (hf : M_lettersOfAll_L4 l0 h l1 l2 = some y) (hk : z_sum (fun q : Int × Int => ZV g x 3 h 4 [(0, (2, l0)), (1, (0, q.1)), (2, (0, q.2))] []) E y) : ZV g x 3 h 4 [(0, (2, l0)), (1, (0, l1)), (2, (0, l2))] [] := by
  unfold M_lettersOfAll_L4 at hf
  refine z_iload_n X dX12_lettersOfAll_4 2 rfl ?_
  refine z_aload_n X dX12_lettersOfAll_5 0 rfl ?_
  obtain ⟨g1, hf⟩ := gif hf
  refine y_get X fl_RX12_149 dX12_lettersOfAll_6 g1 ?_
  refine z_icmp_ge X dX12_lettersOfAll_9 rfl (fun hc9 => ?_) (fun hc9 => ?_)
  · have hf := ift hc9 hf
    cases hf
    exact z_weak [1] rfl (hx0 _ hk)
  · have hf := iff' hc9 hf
    refine z_iload_n X dX12_lettersOfAll_12 1 rfl ?_
    refine z_aload_n X dX12_lettersOfAll_13 0 rfl ?_
    refine y_get X fl_RX12_98 dX12_lettersOfAll_14 g1 ?_
    refine z_iload_n X dX12_lettersOfAll_17 2 rfl ?_
    obtain ⟨g2, hf⟩ := gif hf
    refine y_iald X dX12_lettersOfAll_18 g2 ?_
    refine z_iconst X dX12_lettersOfAll_19 kc_1 ?_
    refine z_icmp_ne X dX12_lettersOfAll_20 rfl (fun hc20 => ?_) (fun hc20 => ?_)
    · have hf := iff' hc20 hf
      refine z_iconst X dX12_lettersOfAll_34 kc_0 ?_
      exact z_weak [0, 2] rfl (z_M_lettersOfAll_j35 X l0 l2 0 l1 h _ hf E hx0 hk)
    · have hf := ift hc20 hf
      refine z_iconst X dX12_lettersOfAll_23 kc_1 ?_
      refine z_aload_n X dX12_lettersOfAll_24 0 rfl ?_
      refine y_get X fl_RX12_101 dX12_lettersOfAll_25 g1 ?_
      refine z_iload_n X dX12_lettersOfAll_28 2 rfl ?_
      obtain ⟨g3, hf⟩ := gif hf
      refine y_iald X dX12_lettersOfAll_29 g3 ?_
      refine z_ishl X dX12_lettersOfAll_30 ?_
      refine z_goto X dX12_lettersOfAll_31 rfl ?_
      exact z_weak [0, 2] rfl (z_M_lettersOfAll_j35 X l0 l2 (i_shl 1 (h (h l0 6) l2)) l1 h _ hf E hx0 hk)
set_option maxHeartbeats 4000000 in
set_option maxRecDepth 100000 in
theorem c_M_lettersOfAll {l : Launch} {g : GP} (d : Nat) (hd : 0 ≤ d) (l0 : Int) (h : Hp) (y : Int) (hf : M_lettersOfAll l0 h = some y) : zM l yX12_lettersOfAll cX12_lettersOfAll 3 (some .int) d 0 0 g 157 h [(2, l0)] 157 h (some (0, y)) := by
  refine z_start (by decide) (Nat.le_of_ble_eq_true rfl) (fun x X hK _ _ _ hl => ?_)
  show ZV g x 3 h 0 [(0, (2, l0))] []
  unfold M_lettersOfAll at hf
  refine z_iconst X dX12_lettersOfAll_0 kc_0 ?_
  refine z_istore_n X dX12_lettersOfAll_1 (by decide) (ls' := [(1, (0, 0)), (0, (2, l0))]) rfl ?_
  refine z_iconst X dX12_lettersOfAll_2 kc_0 ?_
  refine z_istore_n X dX12_lettersOfAll_3 (by decide) (ls' := [(2, (0, 0)), (1, (0, 0)), (0, (2, l0))]) rfl ?_
  obtain ⟨q4, hq4, hf⟩ := obE hf
  have hx4_0 : ∀ e43 : Int, (e43 : Int) = q4 → ZV g x 3 h 43 [(1, (0, e43))] [] := by
    intro e43 hq
    subst hq
    refine z_iload_n X dX12_lettersOfAll_43 0 rfl ?_
    cases hf
    exact z_iret X hK dX12_lettersOfAll_44
  exact z_weak [2, 1, 0] rfl (z_loop (Z := (fun q : Int × Int => ZV g x 3 h 4 [(0, (2, l0)), (1, (0, q.1)), (2, (0, q.2))] [])) (E := fun q => q = q4) (fun q y hb hk => z_M_lettersOfAll_L4 X l0 h (fun q => q = q4) hx4_0 q.1 q.2 y hb hk) LN (0, 0) q4 hq4 rfl)
set_option maxHeartbeats 4000000 in
set_option maxRecDepth 100000 in
theorem c_M_start {l : Launch} {g : GP} (d : Nat) (hd : 0 ≤ d) (l0 : Int) (h : Hp) (y : Int) (hf : M_start l0 h = some y) : zM l yX12_start cX12_start 1 (some .int) d 0 0 g 157 h [(2, l0)] 157 h (some (0, y)) := by
  refine z_start (by decide) (Nat.le_of_ble_eq_true rfl) (fun x X hK _ _ _ hl => ?_)
  show ZV g x 1 h 0 [(0, (2, l0))] []
  unfold M_start at hf
  refine z_aload_n X dX12_start_0 0 rfl ?_
  obtain ⟨g1, hf⟩ := gif hf
  refine y_get X fl_RX12_11 dX12_start_1 g1 ?_
  refine z_if_ne X dX12_start_4 rfl (fun hc4 => ?_) (fun hc4 => ?_)
  · have hf := iff' hc4 hf
    refine z_aload_n X dX12_start_11 0 rfl ?_
    refine y_get X fl_RX12_101 dX12_start_12 g1 ?_
    refine z_iconst X dX12_start_15 kc_0 ?_
    obtain ⟨g2, hf⟩ := gif hf
    refine y_iald X dX12_start_16 g2 ?_
    cases hf
    exact z_iret X hK dX12_start_17
  · have hf := ift hc4 hf
    refine z_iconst X dX12_start_7 kc_m1 ?_
    refine z_goto X dX12_start_8 rfl ?_
    cases hf
    exact z_iret X hK dX12_start_17
set_option maxHeartbeats 4000000 in
set_option maxRecDepth 100000 in
theorem c_M_count {l : Launch} {g : GP} (d : Nat) (hd : 2 ≤ d) (l0 l1 : Int) (h : Hp) (y : Int) (hf : M_count l0 l1 h = some y) : zM l yX12_count cX12_count 2 (some .int) d 0 0 g 157 h [(2, l0), (0, l1)] 157 h (some (0, y)) := by
  obtain ⟨d, rfl⟩ : ∃ k, d = k + 1 := ⟨d - 1, by omega⟩
  replace hd : 1 ≤ d := Nat.le_of_succ_le_succ hd
  refine z_start (by decide) (Nat.le_of_ble_eq_true rfl) (fun x X hK _ _ _ hl => ?_)
  show ZV g x 2 h 0 [(0, (2, l0)), (1, (0, l1))] []
  unfold M_count at hf
  refine z_iload_n X dX12_count_0 1 rfl ?_
  by_cases hc1_0 : l1 = 0
  · have hf := ift hc1_0 hf
    refine z_tsIn X dX12_count_1 (by omega) (by omega) (by rw [hc1_0]; rfl) rfl ?_
    refine z_aload_n X dX12_count_56 0 rfl ?_
    obtain ⟨g1, hf⟩ := gif hf
    refine y_get X fl_RX12_11 dX12_count_57 g1 ?_
    cases hf
    exact z_iret X hK dX12_count_60
  · have hf := iff' hc1_0 hf
    by_cases hc1_1 : l1 = 1
    · have hf := ift hc1_1 hf
      refine z_tsIn X dX12_count_1 (by omega) (by omega) (by rw [hc1_1]; rfl) rfl ?_
      refine z_aload_n X dX12_count_61 0 rfl ?_
      obtain ⟨g2, hf⟩ := gif hf
      refine y_get X fl_RX12_149 dX12_count_62 g2 ?_
      cases hf
      exact z_iret X hK dX12_count_65
    · have hf := iff' hc1_1 hf
      by_cases hc1_2 : l1 = 2
      · have hf := ift hc1_2 hf
        refine z_tsIn X dX12_count_1 (by omega) (by omega) (by rw [hc1_2]; rfl) rfl ?_
        refine z_aload_n X dX12_count_66 0 rfl ?_
        obtain ⟨g3, hf⟩ := gif hf
        refine y_get X fl_RX12_171 dX12_count_67 g3 ?_
        cases hf
        exact z_iret X hK dX12_count_70
      · have hf := iff' hc1_2 hf
        by_cases hc1_3 : l1 = 3
        · have hf := ift hc1_3 hf
          refine z_tsIn X dX12_count_1 (by omega) (by omega) (by rw [hc1_3]; rfl) rfl ?_
          refine z_aload_n X dX12_count_71 0 rfl ?_
          refine z_iconst X dX12_count_72 kc_0 ?_
          obtain ⟨g4, hf⟩ := gif hf
          obtain ⟨r73, hr73, hf⟩ := obE hf
          refine y_V1 X cv_RX12_350 dX12_count_73 g4 (c_M_bitsOf d (Nat.le_trans (by decide) hd) l0 0 h r73 hr73) (as := [(0, 0)]) rfl rfl (Nat.le_of_ble_eq_true rfl) z00 ?_
          cases hf
          exact z_iret X hK dX12_count_76
        · have hf := iff' hc1_3 hf
          by_cases hc1_4 : l1 = 4
          · have hf := ift hc1_4 hf
            refine z_tsIn X dX12_count_1 (by omega) (by omega) (by rw [hc1_4]; rfl) rfl ?_
            refine z_aload_n X dX12_count_77 0 rfl ?_
            refine z_iconst X dX12_count_78 kc_1 ?_
            obtain ⟨g5, hf⟩ := gif hf
            obtain ⟨r79, hr79, hf⟩ := obE hf
            refine y_V1 X cv_RX12_350 dX12_count_79 g5 (c_M_bitsOf d (Nat.le_trans (by decide) hd) l0 1 h r79 hr79) (as := [(0, 1)]) rfl rfl (Nat.le_of_ble_eq_true rfl) z00 ?_
            cases hf
            exact z_iret X hK dX12_count_82
          · have hf := iff' hc1_4 hf
            by_cases hc1_5 : l1 = 5
            · have hf := ift hc1_5 hf
              refine z_tsIn X dX12_count_1 (by omega) (by omega) (by rw [hc1_5]; rfl) rfl ?_
              refine z_aload_n X dX12_count_83 0 rfl ?_
              obtain ⟨g6, hf⟩ := gif hf
              refine y_get X fl_RX12_26 dX12_count_84 g6 ?_
              cases hf
              exact z_iret X hK dX12_count_87
            · have hf := iff' hc1_5 hf
              by_cases hc1_6 : l1 = 6
              · have hf := ift hc1_6 hf
                refine z_tsIn X dX12_count_1 (by omega) (by omega) (by rw [hc1_6]; rfl) rfl ?_
                refine z_aload_n X dX12_count_88 0 rfl ?_
                obtain ⟨g7, hf⟩ := gif hf
                obtain ⟨r89, hr89, hf⟩ := obE hf
                refine y_V1 X cv_RX12_354 dX12_count_89 g7 (c_M_start d (Nat.zero_le _) l0 h r89 hr89) (as := []) rfl rfl (Nat.le_of_ble_eq_true rfl) z00 ?_
                cases hf
                exact z_iret X hK dX12_count_92
              · have hf := iff' hc1_6 hf
                by_cases hc1_7 : l1 = 7
                · have hf := ift hc1_7 hf
                  refine z_tsIn X dX12_count_1 (by omega) (by omega) (by rw [hc1_7]; rfl) rfl ?_
                  refine z_aload_n X dX12_count_93 0 rfl ?_
                  obtain ⟨g8, hf⟩ := gif hf
                  obtain ⟨r94, hr94, hf⟩ := obE hf
                  refine y_V1 X cv_RX12_358 dX12_count_94 g8 (c_M_lettersOfAll d (Nat.zero_le _) l0 h r94 hr94) (as := []) rfl rfl (Nat.le_of_ble_eq_true rfl) z00 ?_
                  cases hf
                  exact z_iret X hK dX12_count_97
                · have hf := iff' hc1_7 hf
                  by_cases hc1_8 : l1 = 8
                  · have hf := ift hc1_8 hf
                    refine z_tsIn X dX12_count_1 (by omega) (by omega) (by rw [hc1_8]; rfl) rfl ?_
                    refine z_aload_n X dX12_count_98 0 rfl ?_
                    obtain ⟨g9, hf⟩ := gif hf
                    refine y_get X fl_RX12_32 dX12_count_99 g9 ?_
                    cases hf
                    exact z_iret X hK dX12_count_102
                  · have hf := iff' hc1_8 hf
                    by_cases hc1_9 : l1 = 9
                    · have hf := ift hc1_9 hf
                      refine z_tsIn X dX12_count_1 (by omega) (by omega) (by rw [hc1_9]; rfl) rfl ?_
                      refine z_aload_n X dX12_count_103 0 rfl ?_
                      obtain ⟨g10, hf⟩ := gif hf
                      refine y_get X fl_RX12_361 dX12_count_104 g10 ?_
                      cases hf
                      exact z_iret X hK dX12_count_107
                    · have hf := iff' hc1_9 hf
                      refine z_tsOut X dX12_count_1 (by omega) rfl ?_
                      refine z_iconst X dX12_count_108 kc_m1 ?_
                      cases hf
                      exact z_iret X hK dX12_count_109
set_option maxHeartbeats 4000000 in
set_option maxRecDepth 100000 in
theorem c_M_tree {l : Launch} {g : GP} (d : Nat) (hd : 2 ≤ d) (l0 l1 l2 : Int) (h : Hp) (y : Int) (hf : M_tree l0 l1 l2 h = some y) : zM l yX12_tree cX12_tree 3 (some .int) d 0 0 g 157 h [(2, l0), (0, l1), (0, l2)] 157 h (some (0, y)) := by
  obtain ⟨d, rfl⟩ : ∃ k, d = k + 1 := ⟨d - 1, by omega⟩
  replace hd : 1 ≤ d := Nat.le_of_succ_le_succ hd
  refine z_start (by decide) (Nat.le_of_ble_eq_true rfl) (fun x X hK _ _ _ hl => ?_)
  show ZV g x 3 h 0 [(0, (2, l0)), (1, (0, l1)), (2, (0, l2))] []
  unfold M_tree at hf
  refine z_aload_n X dX12_tree_0 0 rfl ?_
  refine z_iload_n X dX12_tree_1 1 rfl ?_
  obtain ⟨g1, hf⟩ := gif hf
  obtain ⟨r2, hr2, hf⟩ := obE hf
  refine y_V1 X cv_RX12_18 dX12_tree_2 g1 (c_M_isTree d (Nat.le_trans (by decide) hd) l0 l1 h r2 hr2) (as := [(0, l1)]) rfl rfl (Nat.le_of_ble_eq_true rfl) z00 ?_
  refine z_if_ne X dX12_tree_5 rfl (fun hc5 => ?_) (fun hc5 => ?_)
  · have hf := iff' hc5 hf
    refine z_iload_n X dX12_tree_11 2 rfl ?_
    by_cases hc12_0 : l2 = 0
    · have hf := ift hc12_0 hf
      refine z_tsIn X dX12_tree_12 (by omega) (by omega) (by rw [hc12_0]; rfl) rfl ?_
      refine z_aload_n X dX12_tree_52 0 rfl ?_
      refine z_iload_n X dX12_tree_53 1 rfl ?_
      obtain ⟨r54, hr54, hf⟩ := obE hf
      refine y_V1 X cv_RX12_265 dX12_tree_54 g1 (c_M_isGuest d (Nat.zero_le _) l0 l1 h r54 hr54) (as := [(0, l1)]) rfl rfl (Nat.le_of_ble_eq_true rfl) z00 ?_
      refine z_if_eq X dX12_tree_57 rfl (fun hc57 => ?_) (fun hc57 => ?_)
      · rw [if_pos hc57] at hf
        refine z_iconst X dX12_tree_64 kc_0 ?_
        cases hf
        exact z_iret X hK dX12_tree_65
      · rw [if_neg hc57] at hf
        refine z_iconst X dX12_tree_60 kc_1 ?_
        refine z_goto X dX12_tree_61 rfl ?_
        cases hf
        exact z_iret X hK dX12_tree_65
    · have hf := iff' hc12_0 hf
      by_cases hc12_1 : l2 = 1
      · have hf := ift hc12_1 hf
        refine z_tsIn X dX12_tree_12 (by omega) (by omega) (by rw [hc12_1]; rfl) rfl ?_
        refine z_aload_n X dX12_tree_66 0 rfl ?_
        refine z_iload_n X dX12_tree_67 1 rfl ?_
        obtain ⟨r68, hr68, hf⟩ := obE hf
        refine y_V1 X cv_RX12_22 dX12_tree_68 g1 (c_M_nodesOf d (Nat.zero_le _) l0 l1 h r68 hr68) (as := [(0, l1)]) rfl rfl (Nat.le_of_ble_eq_true rfl) z00 ?_
        cases hf
        exact z_iret X hK dX12_tree_71
      · have hf := iff' hc12_1 hf
        by_cases hc12_2 : l2 = 2
        · have hf := ift hc12_2 hf
          refine z_tsIn X dX12_tree_12 (by omega) (by omega) (by rw [hc12_2]; rfl) rfl ?_
          refine z_aload_n X dX12_tree_72 0 rfl ?_
          refine y_get X fl_RX12_101 dX12_tree_73 g1 ?_
          refine z_aload_n X dX12_tree_76 0 rfl ?_
          refine z_iload_n X dX12_tree_77 1 rfl ?_
          obtain ⟨r78, hr78, hf⟩ := obE hf
          refine y_V1 X cv_RX12_268 dX12_tree_78 g1 (c_M_root d (Nat.zero_le _) l0 l1 h r78 hr78) (as := [(0, l1)]) rfl rfl (Nat.le_of_ble_eq_true rfl) z00 ?_
          obtain ⟨g2, hf⟩ := gif hf
          refine y_iald X dX12_tree_81 g2 ?_
          cases hf
          exact z_iret X hK dX12_tree_82
        · have hf := iff' hc12_2 hf
          by_cases hc12_3 : l2 = 3
          · have hf := ift hc12_3 hf
            refine z_tsIn X dX12_tree_12 (by omega) (by omega) (by rw [hc12_3]; rfl) rfl ?_
            refine z_aload_n X dX12_tree_83 0 rfl ?_
            refine y_get X fl_RX12_29 dX12_tree_84 g1 ?_
            refine z_iload_n X dX12_tree_87 1 rfl ?_
            obtain ⟨g3, hf⟩ := gif hf
            refine y_iald X dX12_tree_88 g3 ?_
            cases hf
            exact z_iret X hK dX12_tree_89
          · have hf := iff' hc12_3 hf
            by_cases hc12_4 : l2 = 4
            · have hf := ift hc12_4 hf
              refine z_tsIn X dX12_tree_12 (by omega) (by omega) (by rw [hc12_4]; rfl) rfl ?_
              refine z_aload_n X dX12_tree_90 0 rfl ?_
              refine y_get X fl_RX12_155 dX12_tree_91 g1 ?_
              refine z_iload_n X dX12_tree_94 1 rfl ?_
              obtain ⟨g4, hf⟩ := gif hf
              refine y_iald X dX12_tree_95 g4 ?_
              cases hf
              exact z_iret X hK dX12_tree_96
            · have hf := iff' hc12_4 hf
              by_cases hc12_5 : l2 = 5
              · have hf := ift hc12_5 hf
                refine z_tsIn X dX12_tree_12 (by omega) (by omega) (by rw [hc12_5]; rfl) rfl ?_
                refine z_aload_n X dX12_tree_97 0 rfl ?_
                refine y_get X fl_RX12_158 dX12_tree_98 g1 ?_
                refine z_iload_n X dX12_tree_101 1 rfl ?_
                obtain ⟨g5, hf⟩ := gif hf
                refine y_iald X dX12_tree_102 g5 ?_
                cases hf
                exact z_iret X hK dX12_tree_103
              · have hf := iff' hc12_5 hf
                refine z_tsOut X dX12_tree_12 (by omega) rfl ?_
                refine z_bipush X dX12_tree_104 kb_m2 kc_m2 ?_
                cases hf
                exact z_iret X hK dX12_tree_106
  · have hf := ift hc5 hf
    refine z_bipush X dX12_tree_8 kb_m2 kc_m2 ?_
    cases hf
    exact z_iret X hK dX12_tree_10
set_option maxHeartbeats 4000000 in
set_option maxRecDepth 100000 in
theorem c_M_own {l : Launch} {g : GP} (d : Nat) (hd : 0 ≤ d) (l0 l1 l2 : Int) (h : Hp) (y : Int) (hf : M_own l0 l1 l2 h = some y) : zM l yX12_own cX12_own 3 (some .int) d 0 0 g 157 h [(2, l0), (0, l1), (0, l2)] 157 h (some (0, y)) := by
  refine z_start (by decide) (Nat.le_of_ble_eq_true rfl) (fun x X hK _ _ _ hl => ?_)
  show ZV g x 3 h 0 [(0, (2, l0)), (1, (0, l1)), (2, (0, l2))] []
  unfold M_own at hf
  refine z_iload_n X dX12_own_0 2 rfl ?_
  refine z_iconst X dX12_own_1 kc_m1 ?_
  refine z_icmp_ne X dX12_own_2 rfl (fun hc2 => ?_) (fun hc2 => ?_)
  · have hf := iff' hc2 hf
    refine z_iload_n X dX12_own_9 2 rfl ?_
    refine z_aload_n X dX12_own_10 0 rfl ?_
    obtain ⟨g1, hf⟩ := gif hf
    refine y_get X fl_RX12_7 dX12_own_11 g1 ?_
    refine z_iload_n X dX12_own_14 1 rfl ?_
    obtain ⟨g2, hf⟩ := gif hf
    refine y_iald X dX12_own_15 g2 ?_
    refine z_isub X dX12_own_16 ?_
    cases hf
    exact z_iret X hK dX12_own_17
  · have hf := ift hc2 hf
    refine z_iconst X dX12_own_5 kc_m1 ?_
    refine z_goto X dX12_own_6 rfl ?_
    cases hf
    exact z_iret X hK dX12_own_17
set_option maxHeartbeats 4000000 in
set_option maxRecDepth 100000 in
theorem c_M_node {l : Launch} {g : GP} (d : Nat) (hd : 3 ≤ d) (l0 l1 l2 l3 : Int) (h : Hp) (y : Int) (hf : M_node l0 l1 l2 l3 h = some y) : zM l yX12_node cX12_node 5 (some .int) d 0 0 g 157 h [(2, l0), (0, l1), (0, l2), (0, l3)] 157 h (some (0, y)) := by
  obtain ⟨d, rfl⟩ : ∃ k, d = k + 1 := ⟨d - 1, by omega⟩
  replace hd : 2 ≤ d := Nat.le_of_succ_le_succ hd
  refine z_start (by decide) (Nat.le_of_ble_eq_true rfl) (fun x X hK _ _ _ hl => ?_)
  show ZV g x 5 h 0 [(0, (2, l0)), (1, (0, l1)), (2, (0, l2)), (3, (0, l3))] []
  unfold M_node at hf
  refine z_aload_n X dX12_node_0 0 rfl ?_
  refine z_iload_n X dX12_node_1 1 rfl ?_
  refine z_iload_n X dX12_node_2 2 rfl ?_
  obtain ⟨g1, hf⟩ := gif hf
  obtain ⟨r3, hr3, hf⟩ := obE hf
  refine y_V1 X cv_RX12_364 dX12_node_3 g1 (c_M_isNode d (Nat.le_trans (by decide) hd) l0 l1 l2 h r3 hr3) (as := [(0, l1), (0, l2)]) rfl rfl (Nat.le_of_ble_eq_true rfl) z00 ?_
  refine z_if_ne X dX12_node_6 rfl (fun hc6 => ?_) (fun hc6 => ?_)
  · have hf := iff' hc6 hf
    refine z_aload_n X dX12_node_12 0 rfl ?_
    refine y_get X fl_RX12_7 dX12_node_13 g1 ?_
    refine z_iload_n X dX12_node_16 1 rfl ?_
    obtain ⟨g2, hf⟩ := gif hf
    refine y_iald X dX12_node_17 g2 ?_
    refine z_iload_n X dX12_node_18 2 rfl ?_
    refine z_iadd X dX12_node_19 ?_
    refine z_istore X dX12_node_20 (by decide) (ls' := [(4, (0, w32 ((h (h l0 4) l1) + l2))), (0, (2, l0)), (1, (0, l1)), (2, (0, l2)), (3, (0, l3))]) rfl ?_
    refine z_iload_n X dX12_node_22 4 rfl ?_
    by_cases hc23_0 : l3 = 0
    · have hf := ift hc23_0 hf
      refine z_tsIn X dX12_node_23 (by omega) (by omega) (by rw [hc23_0]; rfl) rfl ?_
      refine z_aload_n X dX12_node_64 1 rfl ?_
      refine y_get X fl_RX12_98 dX12_node_65 g1 ?_
      refine z_iload X dX12_node_68 0 rfl ?_
      obtain ⟨g3, hf⟩ := gif hf
      refine y_iald X dX12_node_70 g3 ?_
      cases hf
      exact z_iret X hK dX12_node_71
    · have hf := iff' hc23_0 hf
      by_cases hc23_1 : l3 = 1
      · have hf := ift hc23_1 hf
        refine z_tsIn X dX12_node_23 (by omega) (by omega) (by rw [hc23_1]; rfl) rfl ?_
        refine z_aload_n X dX12_node_72 1 rfl ?_
        refine y_get X fl_RX12_101 dX12_node_73 g1 ?_
        refine z_iload X dX12_node_76 0 rfl ?_
        obtain ⟨g4, hf⟩ := gif hf
        refine y_iald X dX12_node_78 g4 ?_
        cases hf
        exact z_iret X hK dX12_node_79
      · have hf := iff' hc23_1 hf
        by_cases hc23_2 : l3 = 2
        · have hf := ift hc23_2 hf
          refine z_tsIn X dX12_node_23 (by omega) (by omega) (by rw [hc23_2]; rfl) rfl ?_
          refine z_aload_n X dX12_node_80 1 rfl ?_
          refine y_get X fl_RX12_104 dX12_node_81 g1 ?_
          refine z_iload X dX12_node_84 0 rfl ?_
          obtain ⟨g5, hf⟩ := gif hf
          refine y_iald X dX12_node_86 g5 ?_
          cases hf
          exact z_iret X hK dX12_node_87
        · have hf := iff' hc23_2 hf
          by_cases hc23_3 : l3 = 3
          · have hf := ift hc23_3 hf
            refine z_tsIn X dX12_node_23 (by omega) (by omega) (by rw [hc23_3]; rfl) rfl ?_
            refine z_aload_n X dX12_node_88 1 rfl ?_
            refine z_iload_n X dX12_node_89 2 rfl ?_
            refine z_aload_n X dX12_node_90 1 rfl ?_
            refine y_get X fl_RX12_107 dX12_node_91 g1 ?_
            refine z_iload X dX12_node_94 0 rfl ?_
            obtain ⟨g6, hf⟩ := gif hf
            refine y_iald X dX12_node_96 g6 ?_
            obtain ⟨r97, hr97, hf⟩ := obE hf
            refine y_V1 X cv_RX12_368 dX12_node_97 g1 (c_M_own d (Nat.zero_le _) l0 l1 (h (h l0 8) (w32 ((h (h l0 4) l1) + l2))) h r97 hr97) (as := [(0, l1), (0, h (h l0 8) (w32 ((h (h l0 4) l1) + l2)))]) rfl rfl (Nat.le_of_ble_eq_true rfl) z00 ?_
            cases hf
            exact z_iret X hK dX12_node_100
          · have hf := iff' hc23_3 hf
            by_cases hc23_4 : l3 = 4
            · have hf := ift hc23_4 hf
              refine z_tsIn X dX12_node_23 (by omega) (by omega) (by rw [hc23_4]; rfl) rfl ?_
              refine z_aload_n X dX12_node_101 1 rfl ?_
              refine z_iload_n X dX12_node_102 2 rfl ?_
              refine z_aload_n X dX12_node_103 1 rfl ?_
              refine y_get X fl_RX12_110 dX12_node_104 g1 ?_
              refine z_iload X dX12_node_107 0 rfl ?_
              obtain ⟨g7, hf⟩ := gif hf
              refine y_iald X dX12_node_109 g7 ?_
              obtain ⟨r110, hr110, hf⟩ := obE hf
              refine y_V1 X cv_RX12_368 dX12_node_110 g1 (c_M_own d (Nat.zero_le _) l0 l1 (h (h l0 9) (w32 ((h (h l0 4) l1) + l2))) h r110 hr110) (as := [(0, l1), (0, h (h l0 9) (w32 ((h (h l0 4) l1) + l2)))]) rfl rfl (Nat.le_of_ble_eq_true rfl) z00 ?_
              cases hf
              exact z_iret X hK dX12_node_113
            · have hf := iff' hc23_4 hf
              by_cases hc23_5 : l3 = 5
              · have hf := ift hc23_5 hf
                refine z_tsIn X dX12_node_23 (by omega) (by omega) (by rw [hc23_5]; rfl) rfl ?_
                refine z_aload_n X dX12_node_114 1 rfl ?_
                refine z_iload_n X dX12_node_115 2 rfl ?_
                refine z_aload_n X dX12_node_116 1 rfl ?_
                refine y_get X fl_RX12_113 dX12_node_117 g1 ?_
                refine z_iload X dX12_node_120 0 rfl ?_
                obtain ⟨g8, hf⟩ := gif hf
                refine y_iald X dX12_node_122 g8 ?_
                obtain ⟨r123, hr123, hf⟩ := obE hf
                refine y_V1 X cv_RX12_368 dX12_node_123 g1 (c_M_own d (Nat.zero_le _) l0 l1 (h (h l0 10) (w32 ((h (h l0 4) l1) + l2))) h r123 hr123) (as := [(0, l1), (0, h (h l0 10) (w32 ((h (h l0 4) l1) + l2)))]) rfl rfl (Nat.le_of_ble_eq_true rfl) z00 ?_
                cases hf
                exact z_iret X hK dX12_node_126
              · have hf := iff' hc23_5 hf
                by_cases hc23_6 : l3 = 6
                · have hf := ift hc23_6 hf
                  refine z_tsIn X dX12_node_23 (by omega) (by omega) (by rw [hc23_6]; rfl) rfl ?_
                  refine z_aload_n X dX12_node_127 1 rfl ?_
                  refine y_get X fl_RX12_167 dX12_node_128 g1 ?_
                  refine z_iload X dX12_node_131 0 rfl ?_
                  obtain ⟨g9, hf⟩ := gif hf
                  refine y_zald X dX12_node_133 g9 ?_
                  refine z_if_eq X dX12_node_134 rfl (fun hc134 => ?_) (fun hc134 => ?_)
                  · rw [if_pos hc134] at hf
                    refine z_iconst X dX12_node_141 kc_0 ?_
                    cases hf
                    exact z_iret X hK dX12_node_142
                  · rw [if_neg hc134] at hf
                    refine z_iconst X dX12_node_137 kc_1 ?_
                    refine z_goto X dX12_node_138 rfl ?_
                    cases hf
                    exact z_iret X hK dX12_node_142
                · have hf := iff' hc23_6 hf
                  refine z_tsOut X dX12_node_23 (by omega) rfl ?_
                  refine z_bipush X dX12_node_143 kb_m2 kc_m2 ?_
                  cases hf
                  exact z_iret X hK dX12_node_145
  · have hf := ift hc6 hf
    refine z_bipush X dX12_node_9 kb_m2 kc_m2 ?_
    cases hf
    exact z_iret X hK dX12_node_11
