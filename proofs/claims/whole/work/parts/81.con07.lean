set_option maxHeartbeats 4000000 in
set_option maxRecDepth 100000 in
theorem z_SR_firstLacking_j114 {g : GP} {x : CX} {d : Nat} (X : zX g x RX7 cX7_firstLacking 7 (d + 1)) (hd : 0 ≤ d) (l0 l1 l2 l3 l4 l5 : Int) (h : Hp) (y : (Int) ⊕ ((Unit) ⊕ (Unit))) (hf : SR_firstLacking_j114 l0 l1 l2 l3 l4 l5 h = some y) (E : (Unit) ⊕ (Unit) → Prop) (hx0 : ∀ e : Unit, E (.inl e) → ZV g x 7 h 112 [(3, (0, l3))] []) (hx1 : ∀ e : Unit, E (.inr e) → ZV g x 7 h 120 [(0, (2, l0)), (1, (0, l1)), (2, (0, l2)), (3, (0, l3))] []) (hk : z_sum (fun q : Int => ZV g x 7 h 29 [(0, (2, l0)), (1, (0, l1)), (2, (0, l2)), (3, (0, l3)), (4, (0, l4)), (5, (0, q))] []) E y) : ZV g x 7 h 114 [(0, (2, l0)), (1, (0, l1)), (2, (0, l2)), (3, (0, l3)), (4, (0, l4)), (5, (0, l5))] [] := by
  unfold SR_firstLacking_j114 at hf
  refine z_iinc X dX7_firstLacking_114 5 rfl (by decide) (ls' := [(5, (0, w32 (l5 + 1))), (0, (2, l0)), (1, (0, l1)), (2, (0, l2)), (3, (0, l3)), (4, (0, l4))]) rfl ?_
  refine z_goto X dX7_firstLacking_117 rfl ?_
  cases hf
  exact z_weak [1, 2, 3, 4, 5, 0] rfl hk
set_option maxHeartbeats 4000000 in
set_option maxRecDepth 100000 in
theorem z_SR_firstLacking_j86 {g : GP} {x : CX} {d : Nat} (X : zX g x RX7 cX7_firstLacking 7 (d + 1)) (hd : 0 ≤ d) (l0 l1 l2 l3 l4 l5 s0 : Int) (h : Hp) (y : (Int) ⊕ ((Unit) ⊕ (Unit))) (hf : SR_firstLacking_j86 l0 l1 l2 l3 l4 l5 s0 h = some y) (E : (Unit) ⊕ (Unit) → Prop) (hx0 : ∀ e : Unit, E (.inl e) → ZV g x 7 h 112 [(3, (0, l3))] []) (hx1 : ∀ e : Unit, E (.inr e) → ZV g x 7 h 120 [(0, (2, l0)), (1, (0, l1)), (2, (0, l2)), (3, (0, l3))] []) (hk : z_sum (fun q : Int => ZV g x 7 h 29 [(0, (2, l0)), (1, (0, l1)), (2, (0, l2)), (3, (0, l3)), (4, (0, l4)), (5, (0, q))] []) E y) : ZV g x 7 h 86 [(0, (2, l0)), (1, (0, l1)), (2, (0, l2)), (3, (0, l3)), (4, (0, l4)), (5, (0, l5))] [(0, s0)] := by
  unfold SR_firstLacking_j86 at hf
  refine z_istore X dX7_firstLacking_86 (by decide) (ls' := [(6, (0, s0)), (0, (2, l0)), (1, (0, l1)), (2, (0, l2)), (3, (0, l3)), (4, (0, l4)), (5, (0, l5))]) rfl ?_
  refine z_iload X dX7_firstLacking_88 0 rfl ?_
  refine z_if_eq X dX7_firstLacking_90 rfl (fun hc90 => ?_) (fun hc90 => ?_)
  · have hf := ift hc90 hf
    exact z_weak [1, 2, 3, 4, 5, 6] rfl (z_SR_firstLacking_j114 X hd l0 l1 l2 l3 l4 l5 h _ hf E hx0 hx1 hk)
  · have hf := iff' hc90 hf
    refine z_aload_n X dX7_firstLacking_93 1 rfl ?_
    obtain ⟨g9, hf⟩ := gif hf
    refine y_get X fl_RX7_69 dX7_firstLacking_94 g9 ?_
    obtain ⟨g10, hf⟩ := gif hf
    refine y_get X fl_RX7_106 dX7_firstLacking_97 g10 ?_
    refine z_iload_n X dX7_firstLacking_100 4 rfl ?_
    refine z_bipush X dX7_firstLacking_101 kb_12 kc_12 ?_
    refine z_imul X dX7_firstLacking_103 ?_
    refine z_iload X dX7_firstLacking_104 6 rfl ?_
    refine z_iadd X dX7_firstLacking_106 ?_
    obtain ⟨g11, hf⟩ := gif hf
    refine y_iald X dX7_firstLacking_107 g11 ?_
    refine z_iconst X dX7_firstLacking_108 kc_m1 ?_
    refine z_icmp_ne X dX7_firstLacking_109 rfl (fun hc109 => ?_) (fun hc109 => ?_)
    · have hf := iff' hc109 hf
      exact z_weak [1, 2, 3, 4, 5, 6] rfl (z_SR_firstLacking_j114 X hd l0 l1 l2 l3 l4 l5 h _ hf E hx0 hx1 hk)
    · have hf := ift hc109 hf
      cases hf
      exact z_weak [4] rfl (hx0 _ hk)
set_option maxHeartbeats 4000000 in
set_option maxRecDepth 100000 in
theorem z_SR_firstLacking_j85 {g : GP} {x : CX} {d : Nat} (X : zX g x RX7 cX7_firstLacking 7 (d + 1)) (hd : 0 ≤ d) (l0 l1 l2 l3 l4 l5 : Int) (h : Hp) (y : (Int) ⊕ ((Unit) ⊕ (Unit))) (hf : SR_firstLacking_j85 l0 l1 l2 l3 l4 l5 h = some y) (E : (Unit) ⊕ (Unit) → Prop) (hx0 : ∀ e : Unit, E (.inl e) → ZV g x 7 h 112 [(3, (0, l3))] []) (hx1 : ∀ e : Unit, E (.inr e) → ZV g x 7 h 120 [(0, (2, l0)), (1, (0, l1)), (2, (0, l2)), (3, (0, l3))] []) (hk : z_sum (fun q : Int => ZV g x 7 h 29 [(0, (2, l0)), (1, (0, l1)), (2, (0, l2)), (3, (0, l3)), (4, (0, l4)), (5, (0, q))] []) E y) : ZV g x 7 h 85 [(0, (2, l0)), (1, (0, l1)), (2, (0, l2)), (3, (0, l3)), (4, (0, l4)), (5, (0, l5))] [] := by
  unfold SR_firstLacking_j85 at hf
  refine z_iconst X dX7_firstLacking_85 kc_0 ?_
  exact (z_SR_firstLacking_j86 X hd l0 l1 l2 l3 l4 l5 0 h _ hf E hx0 hx1 hk)
set_option maxHeartbeats 4000000 in
set_option maxRecDepth 100000 in
theorem z_SR_firstLacking_L29 {g : GP} {x : CX} {d : Nat} (X : zX g x RX7 cX7_firstLacking 7 (d + 1)) (hd : 0 ≤ d) (l0 l1 l2 l3 l4 : Int) (h : Hp) (E : (Unit) ⊕ (Unit) → Prop) (hx0 : ∀ e : Unit, E (.inl e) → ZV g x 7 h 112 [(3, (0, l3))] []) (hx1 : ∀ e : Unit, E (.inr e) → ZV g x 7 h 120 [(0, (2, l0)), (1, (0, l1)), (2, (0, l2)), (3, (0, l3))] []) (l5 : Int) (y : (Int) ⊕ ((Unit) ⊕ (Unit))) (hf : SR_firstLacking_L29 l0 l1 l2 l3 l4 h l5 = some y) (hk : z_sum (fun q : Int => ZV g x 7 h 29 [(0, (2, l0)), (1, (0, l1)), (2, (0, l2)), (3, (0, l3)), (4, (0, l4)), (5, (0, q))] []) E y) : ZV g x 7 h 29 [(0, (2, l0)), (1, (0, l1)), (2, (0, l2)), (3, (0, l3)), (4, (0, l4)), (5, (0, l5))] [] := by
  unfold SR_firstLacking_L29 at hf
  refine z_iload X dX7_firstLacking_29 5 rfl ?_
  refine z_aload_n X dX7_firstLacking_31 0 rfl ?_
  obtain ⟨g5, hf⟩ := gif hf
  refine y_get X fl_RX7_65 dX7_firstLacking_32 g5 ?_
  refine z_aload_n X dX7_firstLacking_35 0 rfl ?_
  refine y_get X fl_RX7_20 dX7_firstLacking_36 g5 ?_
  refine z_iload_n X dX7_firstLacking_39 3 rfl ?_
  obtain ⟨g6, hf⟩ := gif hf
  refine y_iald X dX7_firstLacking_40 g6 ?_
  obtain ⟨g7, hf⟩ := gif hf
  obtain ⟨r41, hr41, hf⟩ := obE hf
  refine y_V1 X cv_RX7_127 dX7_firstLacking_41 g7 (c_Gr_sizeOf d (Nat.zero_le _) (h l0 1) (h (h l0 5) l3) h r41 hr41) (as := [(0, h (h l0 5) l3)]) rfl rfl (Nat.le_of_ble_eq_true rfl) z00 ?_
  refine z_icmp_ge X dX7_firstLacking_44 rfl (fun hc44 => ?_) (fun hc44 => ?_)
  · have hf := ift hc44 hf
    cases hf
    exact z_weak [0, 1, 2, 3] rfl (hx1 _ hk)
  · have hf := iff' hc44 hf
    refine z_aload_n X dX7_firstLacking_47 0 rfl ?_
    refine y_get X fl_RX7_65 dX7_firstLacking_48 g5 ?_
    refine y_get X fl_RX7_115 dX7_firstLacking_51 g7 ?_
    refine z_iload X dX7_firstLacking_54 4 rfl ?_
    refine z_iload X dX7_firstLacking_56 5 rfl ?_
    refine z_iadd X dX7_firstLacking_58 ?_
    obtain ⟨g8, hf⟩ := gif hf
    refine y_iald X dX7_firstLacking_59 g8 ?_
    refine z_iload_n X dX7_firstLacking_60 1 rfl ?_
    refine z_icmp_ne X dX7_firstLacking_61 rfl (fun hc61 => ?_) (fun hc61 => ?_)
    · have hf := iff' hc61 hf
      exact (z_SR_firstLacking_j85 X hd l0 l1 l2 l3 l4 l5 h _ hf E hx0 hx1 hk)
    · have hf := ift hc61 hf
      refine z_aload_n X dX7_firstLacking_64 0 rfl ?_
      refine y_get X fl_RX7_65 dX7_firstLacking_65 g5 ?_
      refine y_get X fl_RX7_118 dX7_firstLacking_68 g7 ?_
      refine z_iload X dX7_firstLacking_71 4 rfl ?_
      refine z_iload X dX7_firstLacking_73 5 rfl ?_
      refine z_iadd X dX7_firstLacking_75 ?_
      obtain ⟨g12, hf⟩ := gif hf
      refine y_iald X dX7_firstLacking_76 g12 ?_
      refine z_iload_n X dX7_firstLacking_77 2 rfl ?_
      refine z_icmp_ne X dX7_firstLacking_78 rfl (fun hc78 => ?_) (fun hc78 => ?_)
      · have hf := iff' hc78 hf
        exact (z_SR_firstLacking_j85 X hd l0 l1 l2 l3 l4 l5 h _ hf E hx0 hx1 hk)
      · have hf := ift hc78 hf
        refine z_iconst X dX7_firstLacking_81 kc_1 ?_
        refine z_goto X dX7_firstLacking_82 rfl ?_
        exact (z_SR_firstLacking_j86 X hd l0 l1 l2 l3 l4 l5 1 h _ hf E hx0 hx1 hk)
set_option maxHeartbeats 4000000 in
set_option maxRecDepth 100000 in
theorem z_SR_firstLacking_L2 {g : GP} {x : CX} {d : Nat} (X : zX g x RX7 cX7_firstLacking 7 (d + 1)) (hd : 0 ≤ d) (l0 l1 l2 : Int) (h : Hp) (E : (Int) ⊕ (Unit) → Prop) (hx0 : ∀ e : Int, E (.inl e) → ZV g x 7 h 112 [(3, (0, e))] []) (hx1 : ∀ e : Unit, E (.inr e) → ZV g x 7 h 126 [] []) (l3 : Int) (y : (Int) ⊕ ((Int) ⊕ (Unit))) (hf : SR_firstLacking_L2 l0 l1 l2 h l3 = some y) (hk : z_sum (fun q : Int => ZV g x 7 h 2 [(0, (2, l0)), (1, (0, l1)), (2, (0, l2)), (3, (0, q))] []) E y) : ZV g x 7 h 2 [(0, (2, l0)), (1, (0, l1)), (2, (0, l2)), (3, (0, l3))] [] := by
  unfold SR_firstLacking_L2 at hf
  refine z_iload_n X dX7_firstLacking_2 3 rfl ?_
  refine z_aload_n X dX7_firstLacking_3 0 rfl ?_
  obtain ⟨g1, hf⟩ := gif hf
  refine y_get X fl_RX7_30 dX7_firstLacking_4 g1 ?_
  refine z_icmp_ge X dX7_firstLacking_7 rfl (fun hc7 => ?_) (fun hc7 => ?_)
  · have hf := ift hc7 hf
    cases hf
    exact z_weak [] rfl (hx1 _ hk)
  · have hf := iff' hc7 hf
    refine z_aload_n X dX7_firstLacking_10 0 rfl ?_
    refine y_get X fl_RX7_65 dX7_firstLacking_11 g1 ?_
    obtain ⟨g2, hf⟩ := gif hf
    refine y_get X fl_RX7_103 dX7_firstLacking_14 g2 ?_
    refine z_aload_n X dX7_firstLacking_17 0 rfl ?_
    refine y_get X fl_RX7_20 dX7_firstLacking_18 g1 ?_
    refine z_iload_n X dX7_firstLacking_21 3 rfl ?_
    obtain ⟨g3, hf⟩ := gif hf
    refine y_iald X dX7_firstLacking_22 g3 ?_
    obtain ⟨g4, hf⟩ := gif hf
    refine y_iald X dX7_firstLacking_23 g4 ?_
    refine z_istore X dX7_firstLacking_24 (by decide) (ls' := [(4, (0, h (h (h l0 1) 6) (h (h l0 5) l3))), (0, (2, l0)), (1, (0, l1)), (2, (0, l2)), (3, (0, l3))]) rfl ?_
    refine z_iconst X dX7_firstLacking_26 kc_0 ?_
    refine z_istore X dX7_firstLacking_27 (by decide) (ls' := [(5, (0, 0)), (4, (0, h (h (h l0 1) 6) (h (h l0 5) l3))), (0, (2, l0)), (1, (0, l1)), (2, (0, l2)), (3, (0, l3))]) rfl ?_
    obtain ⟨q29, hq29, hf⟩ := obE hf
    have hx29_0 : ∀ e112 : Unit, (.inl e112 : (Unit) ⊕ (Unit)) = q29 → ZV g x 7 h 112 [(3, (0, l3))] [] := by
      intro e112 hq
      subst hq
      dsimp only at hf
      cases hf
      exact (hx0 _ hk)
    have hx29_1 : ∀ e120 : Unit, (.inr e120 : (Unit) ⊕ (Unit)) = q29 → ZV g x 7 h 120 [(0, (2, l0)), (1, (0, l1)), (2, (0, l2)), (3, (0, l3))] [] := by
      intro e120 hq
      subst hq
      dsimp only at hf
      refine z_iinc X dX7_firstLacking_120 3 rfl (by decide) (ls' := [(3, (0, w32 (l3 + 1))), (0, (2, l0)), (1, (0, l1)), (2, (0, l2))]) rfl ?_
      refine z_goto X dX7_firstLacking_123 rfl ?_
      cases hf
      exact z_weak [1, 2, 3, 0] rfl hk
    exact z_weak [2, 3, 4, 5, 1, 0] rfl (z_loop (Z := (fun q : Int => ZV g x 7 h 29 [(0, (2, l0)), (1, (0, l1)), (2, (0, l2)), (3, (0, l3)), (4, (0, h (h (h l0 1) 6) (h (h l0 5) l3))), (5, (0, q))] [])) (E := fun q => q = q29) (fun q y hb hk => z_SR_firstLacking_L29 X hd l0 l1 l2 l3 (h (h (h l0 1) 6) (h (h l0 5) l3)) h (fun q => q = q29) hx29_0 hx29_1 q y hb hk) LN 0 q29 hq29 rfl)
set_option maxHeartbeats 4000000 in
set_option maxRecDepth 100000 in
theorem c_SR_firstLacking {l : Launch} {g : GP} (d : Nat) (hd : 1 ≤ d) (l0 l1 l2 : Int) (h : Hp) (y : Int) (hf : SR_firstLacking l0 l1 l2 h = some y) : zM l yX7_firstLacking cX7_firstLacking 7 (some .int) d 0 0 g 157 h [(2, l0), (0, l1), (0, l2)] 157 h (some (0, y)) := by
  obtain ⟨d, rfl⟩ : ∃ k, d = k + 1 := ⟨d - 1, by omega⟩
  replace hd : 0 ≤ d := Nat.le_of_succ_le_succ hd
  refine z_start (by decide) (Nat.le_of_ble_eq_true rfl) (fun x X hK _ _ _ hl => ?_)
  show ZV g x 7 h 0 [(0, (2, l0)), (1, (0, l1)), (2, (0, l2))] []
  unfold SR_firstLacking at hf
  refine z_iconst X dX7_firstLacking_0 kc_0 ?_
  refine z_istore_n X dX7_firstLacking_1 (by decide) (ls' := [(3, (0, 0)), (0, (2, l0)), (1, (0, l1)), (2, (0, l2))]) rfl ?_
  obtain ⟨q2, hq2, hf⟩ := obE hf
  have hx2_0 : ∀ e112 : Int, (.inl e112 : (Int) ⊕ (Unit)) = q2 → ZV g x 7 h 112 [(3, (0, e112))] [] := by
    intro e112 hq
    subst hq
    dsimp only at hf
    refine z_iload_n X dX7_firstLacking_112 0 rfl ?_
    cases hf
    exact z_iret X hK dX7_firstLacking_113
  have hx2_1 : ∀ e126 : Unit, (.inr e126 : (Int) ⊕ (Unit)) = q2 → ZV g x 7 h 126 [] [] := by
    intro e126 hq
    subst hq
    dsimp only at hf
    refine z_iconst X dX7_firstLacking_126 kc_m1 ?_
    cases hf
    exact z_iret X hK dX7_firstLacking_127
  exact z_weak [1, 2, 3, 0] rfl (z_loop (Z := (fun q : Int => ZV g x 7 h 2 [(0, (2, l0)), (1, (0, l1)), (2, (0, l2)), (3, (0, q))] [])) (E := fun q => q = q2) (fun q y hb hk => z_SR_firstLacking_L2 X hd l0 l1 l2 h (fun q => q = q2) hx2_0 hx2_1 q y hb hk) LN 0 q2 hq2 rfl)
set_option maxHeartbeats 4000000 in
set_option maxRecDepth 100000 in
theorem z_Wy_addStep_j68 {g : GP} {x : CX} {d : Nat} (X : zX g x RX9 cX9_addStep 5 d) (l0 l4 : Int) (h : Hp) (y : Int × Hp) (hf : Wy_addStep_j68 l0 l4 h = some y) (hK : zE g x (some .int) 0 0 157 y.2 (some (0, y.1))) : ZV g x 5 h 68 [(0, (2, l0)), (4, (0, l4))] [] := by
  unfold Wy_addStep_j68 at hf
  refine z_aload_n X dX9_addStep_68 0 rfl ?_
  refine z_dup X ne2 dX9_addStep_69 ?_
  obtain ⟨g6, hf⟩ := gif hf
  refine y_get X fl_RX9_48 dX9_addStep_70 g6 ?_
  refine z_iconst X dX9_addStep_73 kc_1 ?_
  refine z_iadd X dX9_addStep_74 ?_
  refine y_put X fl_RX9_48 dX9_addStep_75 g6 rfl (by decide) ?_
  let h_5 : Hp := hput h l0 1 (w32 ((h l0 1) + 1))
  refine z_iload X dX9_addStep_78 1 rfl ?_
  cases hf
  exact z_iret X hK dX9_addStep_80
set_option maxHeartbeats 4000000 in
set_option maxRecDepth 100000 in
theorem c_Wy_addStep {l : Launch} {g : GP} (d : Nat) (hd : 0 ≤ d) (l0 l1 l2 l3 : Int) (h : Hp) (y : Int × Hp) (hf : Wy_addStep l0 l1 l2 l3 h = some y) : zM l yX9_addStep cX9_addStep 5 (some .int) d 0 0 g 157 h [(2, l0), (0, l1), (0, l2), (0, l3)] 157 y.2 (some (0, y.1)) := by
  refine z_start (by decide) (Nat.le_of_ble_eq_true rfl) (fun x X hK _ _ _ hl => ?_)
  show ZV g x 5 h 0 [(0, (2, l0)), (1, (0, l1)), (2, (0, l2)), (3, (0, l3))] []
  unfold Wy_addStep at hf
  refine z_aload_n X dX9_addStep_0 0 rfl ?_
  obtain ⟨g1, hf⟩ := gif hf
  refine y_get X fl_RX9_48 dX9_addStep_1 g1 ?_
  refine z_bipush X dX9_addStep_4 kb_48 kc_48 ?_
  refine z_icmp_lt X dX9_addStep_6 rfl (fun hc6 => ?_) (fun hc6 => ?_)
  · have hf := ift hc6 hf
    refine z_aload_n X dX9_addStep_12 0 rfl ?_
    refine y_get X fl_RX9_48 dX9_addStep_13 g1 ?_
    refine z_istore X dX9_addStep_16 (by decide) (ls' := [(4, (0, h l0 1)), (0, (2, l0)), (1, (0, l1)), (2, (0, l2)), (3, (0, l3))]) rfl ?_
    refine z_aload_n X dX9_addStep_18 1 rfl ?_
    refine y_get X fl_RX9_9 dX9_addStep_19 g1 ?_
    refine z_iload X dX9_addStep_22 0 rfl ?_
    refine z_iload_n X dX9_addStep_24 2 rfl ?_
    obtain ⟨g2, hf⟩ := gif hf
    refine y_iast X dX9_addStep_25 g2 ?_
    let h_1 : Hp := hput h (h l0 4) (h l0 1) l1
    refine z_aload_n X dX9_addStep_26 1 rfl ?_
    refine y_get X fl_RX9_15 dX9_addStep_27 g1 ?_
    refine z_iload X dX9_addStep_30 0 rfl ?_
    refine z_iload_n X dX9_addStep_32 3 rfl ?_
    obtain ⟨g3, hf⟩ := gif hf
    refine y_iast X dX9_addStep_33 g3 ?_
    let h_2 : Hp := hput h_1 (h_1 l0 5) (h l0 1) l2
    refine z_aload_n X dX9_addStep_34 1 rfl ?_
    refine y_get X fl_RX9_18 dX9_addStep_35 g1 ?_
    refine z_iload X dX9_addStep_38 0 rfl ?_
    refine z_iload_n X dX9_addStep_40 4 rfl ?_
    obtain ⟨g4, hf⟩ := gif hf
    refine y_iast X dX9_addStep_41 g4 ?_
    let h_3 : Hp := hput h_2 (h_2 l0 6) (h l0 1) l3
    refine z_aload_n X dX9_addStep_42 1 rfl ?_
    refine y_get X fl_RX9_21 dX9_addStep_43 g1 ?_
    refine z_iload X dX9_addStep_46 0 rfl ?_
    refine z_iconst X dX9_addStep_48 kc_m1 ?_
    obtain ⟨g5, hf⟩ := gif hf
    refine y_iast X dX9_addStep_49 g5 ?_
    let h_4 : Hp := hput h_3 (h_3 l0 7) (h l0 1) ((-1))
    refine z_iload_n X dX9_addStep_50 3 rfl ?_
    refine z_iconst X dX9_addStep_51 kc_m1 ?_
    refine z_icmp_eq X dX9_addStep_52 rfl (fun hc52 => ?_) (fun hc52 => ?_)
    · have hf := ift hc52 hf
      exact z_weak [1, 0] rfl (z_Wy_addStep_j68 X l0 (h l0 1) h_4 _ hf hK)
    · have hf := iff' hc52 hf
      refine z_aload_n X dX9_addStep_55 1 rfl ?_
      refine y_get X fl_RX9_24 dX9_addStep_56 g1 ?_
      refine z_iload_n X dX9_addStep_59 3 rfl ?_
      refine z_bipush X dX9_addStep_60 kb_12 kc_12 ?_
      refine z_imul X dX9_addStep_62 ?_
      refine z_iload_n X dX9_addStep_63 4 rfl ?_
      refine z_iadd X dX9_addStep_64 ?_
      refine z_iload X dX9_addStep_65 0 rfl ?_
      obtain ⟨g7, hf⟩ := gif hf
      refine y_iast X dX9_addStep_67 g7 ?_
      let h_6 : Hp := hput h_4 (h_4 l0 8) (w32 ((w32 (l2 * 12)) + l3)) (h l0 1)
      exact z_weak [1, 0] rfl (z_Wy_addStep_j68 X l0 (h l0 1) h_6 _ hf hK)
  · have hf := iff' hc6 hf
    refine z_bipush X dX9_addStep_9 kb_47 kc_47 ?_
    cases hf
    exact z_iret X hK dX9_addStep_11
set_option maxHeartbeats 4000000 in
set_option maxRecDepth 100000 in
theorem c_Wy_clear {l : Launch} {g : GP} (d : Nat) (hd : 1 ≤ d) (l0 : Int) (h : Hp) (y : Hp) (hf : Wy_clear l0 h = some y) : zM l yX9_clear cX9_clear 1 none d 0 0 g 157 h [(2, l0)] 157 y none := by
  obtain ⟨d, rfl⟩ : ∃ k, d = k + 1 := ⟨d - 1, by omega⟩
  replace hd : 0 ≤ d := Nat.le_of_succ_le_succ hd
  refine z_start (by decide) (Nat.le_of_ble_eq_true rfl) (fun x X hK _ _ _ hl => ?_)
  show ZV g x 1 h 0 [(0, (2, l0))] []
  unfold Wy_clear at hf
  refine z_aload_n X dX9_clear_0 0 rfl ?_
  refine z_iconst X dX9_clear_1 kc_0 ?_
  obtain ⟨g1, hf⟩ := gif hf
  refine y_put X fl_RX9_48 dX9_clear_2 g1 rfl (by decide) ?_
  let h_1 : Hp := hput h l0 1 0
  refine z_aload_n X dX9_clear_5 0 rfl ?_
  refine y_get X fl_RX9_24 dX9_clear_6 g1 ?_
  refine z_iconst X dX9_clear_9 kc_m1 ?_
  obtain ⟨r10, hr10, hf⟩ := obE hf
  refine y_S0 X cs_RX9_52 dX9_clear_10 (c_JA_fillI d (Nat.zero_le _) (h_1 l0 8) ((-1)) h_1 r10 hr10) (as := [(2, h_1 l0 8), (0, (-1))]) rfl rfl (Nat.le_of_ble_eq_true rfl) z00 ?_
  cases hf
  exact z_vret X hK dX9_clear_13
set_option maxHeartbeats 4000000 in
set_option maxRecDepth 100000 in
theorem z_SR_putTogether_j78 {g : GP} {x : CX} {d : Nat} (X : zX g x RX7 cX7_putTogether 4 (d + 1)) (hd : 2 ≤ d) (l0 l3 s0 s1 s2 s3 : Int) (h : Hp) (y : (Int × Hp) ⊕ ((Int × Hp) ⊕ (Hp))) (hf : SR_putTogether_j78 l0 l3 s0 s1 s2 s3 h = some y) (E : (Int × Hp) ⊕ (Hp) → Prop) (hx0 : ∀ e : Int × Hp, E (.inl e) → ZV g x 4 e.2 35 [(3, (0, e.1))] []) (hx1 : ∀ e : Hp, E (.inr e) → ZV g x 4 e 88 [(0, (2, l0))] []) (hk : z_sum (fun q : Int × Hp => ZV g x 4 q.2 19 [(0, (2, l0)), (3, (0, q.1))] []) E y) : ZV g x 4 h 78 [(0, (2, l0)), (3, (0, l3))] [(0, s0), (0, s1), (0, s2), (2, s3)] := by
  unfold SR_putTogether_j78 at hf
  obtain ⟨g8, hf⟩ := gif hf
  obtain ⟨r78, hr78, hf⟩ := obE hf
  refine y_V1 X cv_RX7_81 dX7_putTogether_78 g8 (c_Wy_addStep d (Nat.zero_le _) s3 s2 s1 s0 h r78 hr78) (as := [(0, s2), (0, s1), (0, s0)]) rfl rfl (Nat.le_of_ble_eq_true rfl) z00 ?_
  refine z_pop X ne0 dX7_putTogether_81 ?_
  refine z_iinc X dX7_putTogether_82 1 rfl (by decide) (ls' := [(3, (0, w32 (l3 + 1))), (0, (2, l0))]) rfl ?_
  refine z_goto X dX7_putTogether_85 rfl ?_
  cases hf
  exact z_weak [1, 0] rfl hk
set_option maxHeartbeats 4000000 in
set_option maxRecDepth 100000 in
theorem z_SR_putTogether_j64 {g : GP} {x : CX} {d : Nat} (X : zX g x RX7 cX7_putTogether 4 (d + 1)) (hd : 2 ≤ d) (l0 l3 s0 s1 s2 : Int) (h : Hp) (y : (Int × Hp) ⊕ ((Int × Hp) ⊕ (Hp))) (hf : SR_putTogether_j64 l0 l3 s0 s1 s2 h = some y) (E : (Int × Hp) ⊕ (Hp) → Prop) (hx0 : ∀ e : Int × Hp, E (.inl e) → ZV g x 4 e.2 35 [(3, (0, e.1))] []) (hx1 : ∀ e : Hp, E (.inr e) → ZV g x 4 e 88 [(0, (2, l0))] []) (hk : z_sum (fun q : Int × Hp => ZV g x 4 q.2 19 [(0, (2, l0)), (3, (0, q.1))] []) E y) : ZV g x 4 h 64 [(0, (2, l0)), (3, (0, l3))] [(0, s0), (0, s1), (2, s2)] := by
  unfold SR_putTogether_j64 at hf
  refine z_iload_n X dX7_putTogether_64 1 rfl ?_
  refine z_if_ne X dX7_putTogether_65 rfl (fun hc65 => ?_) (fun hc65 => ?_)
  · have hf := iff' hc65 hf
    refine z_aload_n X dX7_putTogether_72 0 rfl ?_
    obtain ⟨g6, hf⟩ := gif hf
    refine y_get X fl_RX7_27 dX7_putTogether_73 g6 ?_
    refine z_iload_n X dX7_putTogether_76 1 rfl ?_
    obtain ⟨g7, hf⟩ := gif hf
    refine y_iald X dX7_putTogether_77 g7 ?_
    exact (z_SR_putTogether_j78 X hd l0 l3 (h (h l0 7) l3) s0 s1 s2 h _ hf E hx0 hx1 hk)
  · have hf := ift hc65 hf
    refine z_iconst X dX7_putTogether_68 kc_m1 ?_
    refine z_goto X dX7_putTogether_69 rfl ?_
    exact (z_SR_putTogether_j78 X hd l0 l3 ((-1)) s0 s1 s2 h _ hf E hx0 hx1 hk)
set_option maxHeartbeats 4000000 in
set_option maxRecDepth 100000 in
theorem z_SR_putTogether_L19 {g : GP} {x : CX} {d : Nat} (X : zX g x RX7 cX7_putTogether 4 (d + 1)) (hd : 2 ≤ d) (l0 : Int)  (E : (Int × Hp) ⊕ (Hp) → Prop) (hx0 : ∀ e : Int × Hp, E (.inl e) → ZV g x 4 e.2 35 [(3, (0, e.1))] []) (hx1 : ∀ e : Hp, E (.inr e) → ZV g x 4 e 88 [(0, (2, l0))] []) (l3 : Int) (h : Hp) (y : (Int × Hp) ⊕ ((Int × Hp) ⊕ (Hp))) (hf : SR_putTogether_L19 l0 l3 h = some y) (hk : z_sum (fun q : Int × Hp => ZV g x 4 q.2 19 [(0, (2, l0)), (3, (0, q.1))] []) E y) : ZV g x 4 h 19 [(0, (2, l0)), (3, (0, l3))] [] := by
  unfold SR_putTogether_L19 at hf
  refine z_iload_n X dX7_putTogether_19 1 rfl ?_
  refine z_aload_n X dX7_putTogether_20 0 rfl ?_
  obtain ⟨g3, hf⟩ := gif hf
  refine y_get X fl_RX7_30 dX7_putTogether_21 g3 ?_
  refine z_icmp_ge X dX7_putTogether_24 rfl (fun hc24 => ?_) (fun hc24 => ?_)
  · have hf := ift hc24 hf
    cases hf
    exact z_weak [0] rfl (hx1 _ hk)
  · have hf := iff' hc24 hf
    refine z_aload_n X dX7_putTogether_27 0 rfl ?_
    refine z_iload_n X dX7_putTogether_28 1 rfl ?_
    obtain ⟨r29, hr29, hf⟩ := obE hf
    refine y_V1 X cv_RX7_78 dX7_putTogether_29 g3 (c_SR_canBeThere d (Nat.le_trans (by decide) hd) l0 l3 h r29 hr29) (as := [(0, l3)]) rfl rfl (Nat.le_of_ble_eq_true rfl) z00 ?_
    refine z_if_ne X dX7_putTogether_32 rfl (fun hc32 => ?_) (fun hc32 => ?_)
    · have hf := iff' hc32 hf
      refine z_aload_n X dX7_putTogether_40 0 rfl ?_
      refine y_get X fl_RX7_69 dX7_putTogether_41 g3 ?_
      refine z_aload_n X dX7_putTogether_44 0 rfl ?_
      refine y_get X fl_RX7_20 dX7_putTogether_45 g3 ?_
      refine z_iload_n X dX7_putTogether_48 1 rfl ?_
      obtain ⟨g4, hf⟩ := gif hf
      refine y_iald X dX7_putTogether_49 g4 ?_
      refine z_iload_n X dX7_putTogether_50 1 rfl ?_
      refine z_if_ne X dX7_putTogether_51 rfl (fun hc51 => ?_) (fun hc51 => ?_)
      · have hf := iff' hc51 hf
        refine z_aload_n X dX7_putTogether_58 0 rfl ?_
        refine y_get X fl_RX7_24 dX7_putTogether_59 g3 ?_
        refine z_iload_n X dX7_putTogether_62 1 rfl ?_
        obtain ⟨g5, hf⟩ := gif hf
        refine y_iald X dX7_putTogether_63 g5 ?_
        exact (z_SR_putTogether_j64 X hd l0 l3 (h (h l0 6) l3) (h (h l0 5) l3) (h l0 2) h _ hf E hx0 hx1 hk)
      · have hf := ift hc51 hf
        refine z_iconst X dX7_putTogether_54 kc_m1 ?_
        refine z_goto X dX7_putTogether_55 rfl ?_
        exact (z_SR_putTogether_j64 X hd l0 l3 ((-1)) (h (h l0 5) l3) (h l0 2) h _ hf E hx0 hx1 hk)
    · have hf := ift hc32 hf
      cases hf
      exact z_weak [1] rfl (hx0 _ hk)
set_option maxHeartbeats 4000000 in
set_option maxRecDepth 100000 in
theorem c_SR_putTogether {l : Launch} {g : GP} (d : Nat) (hd : 3 ≤ d) (l0 l1 l2 : Int) (h : Hp) (y : Int × Hp) (hf : SR_putTogether l0 l1 l2 h = some y) : zM l yX7_putTogether cX7_putTogether 4 (some .int) d 0 0 g 157 h [(2, l0), (2, l1), (2, l2)] 157 y.2 (some (0, y.1)) := by
  obtain ⟨d, rfl⟩ : ∃ k, d = k + 1 := ⟨d - 1, by omega⟩
  replace hd : 2 ≤ d := Nat.le_of_succ_le_succ hd
  refine z_start (by decide) (Nat.le_of_ble_eq_true rfl) (fun x X hK _ _ _ hl => ?_)
  show ZV g x 4 h 0 [(0, (2, l0)), (1, (2, l1)), (2, (2, l2))] []
  unfold SR_putTogether at hf
  refine z_aload_n X dX7_putTogether_0 0 rfl ?_
  refine z_aload_n X dX7_putTogether_1 1 rfl ?_
  obtain ⟨g1, hf⟩ := gif hf
  refine y_put X fl_RX7_65 dX7_putTogether_2 g1 rfl (by decide) ?_
  let h_1 : Hp := hput h l0 1 l1
  refine z_aload_n X dX7_putTogether_5 0 rfl ?_
  refine z_aload_n X dX7_putTogether_6 2 rfl ?_
  refine y_put X fl_RX7_69 dX7_putTogether_7 g1 rfl (by decide) ?_
  let h_2 : Hp := hput h_1 l0 2 l2
  refine z_aload_n X dX7_putTogether_10 0 rfl ?_
  refine y_get X fl_RX7_69 dX7_putTogether_11 g1 ?_
  obtain ⟨g2, hf⟩ := gif hf
  obtain ⟨r14, hr14, hf⟩ := obE hf
  refine y_V0 X cv_RX7_73 dX7_putTogether_14 g2 (c_Wy_clear d (Nat.le_trans (by decide) hd) (h_2 l0 2) h_2 r14 hr14) (as := []) rfl rfl (Nat.le_of_ble_eq_true rfl) z00 ?_
  refine z_iconst X dX7_putTogether_17 kc_0 ?_
  refine z_istore_n X dX7_putTogether_18 (by decide) (ls' := [(3, (0, 0)), (0, (2, l0)), (1, (2, l1)), (2, (2, l2))]) rfl ?_
  obtain ⟨q19, hq19, hf⟩ := obE hf
  have hx19_0 : ∀ e35 : Int × Hp, (.inl e35 : (Int × Hp) ⊕ (Hp)) = q19 → ZV g x 4 e35.2 35 [(3, (0, e35.1))] [] := by
    intro e35 hq
    subst hq
    dsimp only at hf
    refine z_bipush X dX7_putTogether_35 kb_m100 kc_m100 ?_
    refine z_iload_n X dX7_putTogether_37 0 rfl ?_
    refine z_isub X dX7_putTogether_38 ?_
    cases hf
    exact z_iret X hK dX7_putTogether_39
  have hx19_1 : ∀ e88 : Hp, (.inr e88 : (Int × Hp) ⊕ (Hp)) = q19 → ZV g x 4 e88 88 [(0, (2, l0))] [] := by
    intro e88 hq
    subst hq
    dsimp only at hf
    refine z_aload_n X dX7_putTogether_88 0 rfl ?_
    refine z_iconst X dX7_putTogether_89 kc_4 ?_
    refine z_iconst X dX7_putTogether_90 kc_0 ?_
    obtain ⟨r91, hr91, hf⟩ := obE hf
    refine y_V1 X cv_RX7_85 dX7_putTogether_91 g1 (c_SR_firstLacking d (Nat.le_trans (by decide) hd) l0 4 0 e88 r91 hr91) (as := [(0, 4), (0, 0)]) rfl rfl (Nat.le_of_ble_eq_true rfl) z00 ?_
    refine z_istore_n X dX7_putTogether_94 (by decide) (ls' := [(3, (0, r91)), (0, (2, l0))]) rfl ?_
    refine z_iload_n X dX7_putTogether_95 0 rfl ?_
    refine z_iconst X dX7_putTogether_96 kc_m1 ?_
    refine z_icmp_eq X dX7_putTogether_97 rfl (fun hc97 => ?_) (fun hc97 => ?_)
    · have hf := ift hc97 hf
      refine z_aload_n X dX7_putTogether_106 1 rfl ?_
      refine z_iconst X dX7_putTogether_107 kc_0 ?_
      refine z_iconst X dX7_putTogether_108 kc_2 ?_
      obtain ⟨r109, hr109, hf⟩ := obE hf
      refine y_V1 X cv_RX7_85 dX7_putTogether_109 g1 (c_SR_firstLacking d (Nat.le_trans (by decide) hd) l0 0 2 e88 r109 hr109) (as := [(0, 0), (0, 2)]) rfl rfl (Nat.le_of_ble_eq_true rfl) z00 ?_
      refine z_istore_n X dX7_putTogether_112 (by decide) (ls' := [(3, (0, r109)), (0, (2, l0))]) rfl ?_
      refine z_iload_n X dX7_putTogether_113 0 rfl ?_
      refine z_iconst X dX7_putTogether_114 kc_m1 ?_
      refine z_icmp_ne X dX7_putTogether_115 rfl (fun hc115 => ?_) (fun hc115 => ?_)
      · rw [if_neg hc115] at hf
        refine z_sipush X dX7_putTogether_122 ks_m300 kc_m300 ?_
        refine z_iload_n X dX7_putTogether_125 0 rfl ?_
        refine z_isub X dX7_putTogether_126 ?_
        cases hf
        exact z_iret X hK dX7_putTogether_127
      · rw [if_pos hc115] at hf
        refine z_iconst X dX7_putTogether_118 kc_0 ?_
        refine z_goto X dX7_putTogether_119 rfl ?_
        cases hf
        exact z_iret X hK dX7_putTogether_127
    · have hf := iff' hc97 hf
      refine z_sipush X dX7_putTogether_100 ks_m200 kc_m200 ?_
      refine z_iload_n X dX7_putTogether_103 0 rfl ?_
      refine z_isub X dX7_putTogether_104 ?_
      cases hf
      exact z_iret X hK dX7_putTogether_105
  exact z_weak [1, 0] rfl (z_loop (Z := (fun q : Int × Hp => ZV g x 4 q.2 19 [(0, (2, l0)), (3, (0, q.1))] [])) (E := fun q => q = q19) (fun q y hb hk => z_SR_putTogether_L19 X hd l0 (fun q => q = q19) hx19_0 hx19_1 q.1 q.2 y hb hk) LN (0, r14) q19 hq19 rfl)
set_option maxHeartbeats 4000000 in
set_option maxRecDepth 100000 in
theorem z_Wy_tellSteps_j56 {g : GP} {x : CX} {d : Nat} (X : zX g x RX9 cX9_tellSteps 3 (d + 1)) (hd : 1 ≤ d) (l0 l1 l2 : Int) (h : Hp) (y : (Int × Hp) ⊕ (Hp)) (hf : Wy_tellSteps_j56 l0 l1 l2 h = some y) (E : Hp → Prop) (hx0 : ∀ e : Hp, E (e) → ZV g x 3 e 68 [] []) (hk : z_sum (fun q : Int × Hp => ZV g x 3 q.2 2 [(0, (2, l0)), (1, (2, l1)), (2, (0, q.1))] []) E y) : ZV g x 3 h 56 [(0, (2, l0)), (1, (2, l1)), (2, (0, l2))] [] := by
  unfold Wy_tellSteps_j56 at hf
  refine z_aload_n X dX9_tellSteps_56 1 rfl ?_
  refine z_bipush X dX9_tellSteps_57 kb_59 kc_59 ?_
  obtain ⟨g4, hf⟩ := gif hf
  obtain ⟨r59, hr59, hf⟩ := obE hf
  refine y_V0 X cv_RX9_61 dX9_tellSteps_59 g4 (c_By_add d (Nat.zero_le _) l1 59 h r59 hr59) (as := [(0, 59)]) rfl rfl (Nat.le_of_ble_eq_true rfl) z00 ?_
  refine z_iinc X dX9_tellSteps_62 2 rfl (by decide) (ls' := [(2, (0, w32 (l2 + 1))), (0, (2, l0)), (1, (2, l1))]) rfl ?_
  refine z_goto X dX9_tellSteps_65 rfl ?_
  cases hf
  exact z_weak [1, 2, 0] rfl hk
set_option maxHeartbeats 4000000 in
set_option maxRecDepth 100000 in
theorem z_Wy_tellSteps_L2 {g : GP} {x : CX} {d : Nat} (X : zX g x RX9 cX9_tellSteps 3 (d + 1)) (hd : 1 ≤ d) (l0 l1 : Int)  (E : Hp → Prop) (hx0 : ∀ e : Hp, E (e) → ZV g x 3 e 68 [] []) (l2 : Int) (h : Hp) (y : (Int × Hp) ⊕ (Hp)) (hf : Wy_tellSteps_L2 l0 l1 l2 h = some y) (hk : z_sum (fun q : Int × Hp => ZV g x 3 q.2 2 [(0, (2, l0)), (1, (2, l1)), (2, (0, q.1))] []) E y) : ZV g x 3 h 2 [(0, (2, l0)), (1, (2, l1)), (2, (0, l2))] [] := by
  unfold Wy_tellSteps_L2 at hf
  refine z_iload_n X dX9_tellSteps_2 2 rfl ?_
  refine z_aload_n X dX9_tellSteps_3 0 rfl ?_
  obtain ⟨g1, hf⟩ := gif hf
  refine y_get X fl_RX9_48 dX9_tellSteps_4 g1 ?_
  refine z_icmp_ge X dX9_tellSteps_7 rfl (fun hc7 => ?_) (fun hc7 => ?_)
  · have hf := ift hc7 hf
    cases hf
    exact z_weak [] rfl (hx0 _ hk)
  · have hf := iff' hc7 hf
    refine z_aload_n X dX9_tellSteps_10 1 rfl ?_
    refine z_aload_n X dX9_tellSteps_11 0 rfl ?_
    refine y_get X fl_RX9_9 dX9_tellSteps_12 g1 ?_
    refine z_iload_n X dX9_tellSteps_15 2 rfl ?_
    obtain ⟨g2, hf⟩ := gif hf
    refine y_iald X dX9_tellSteps_16 g2 ?_
    obtain ⟨g3, hf⟩ := gif hf
    obtain ⟨r17, hr17, hf⟩ := obE hf
    refine y_V0 X cv_RX9_58 dX9_tellSteps_17 g3 (c_By_addNumber d (Nat.le_trans (by decide) hd) l1 (h (h l0 4) l2) h r17 hr17) (as := [(0, h (h l0 4) l2)]) rfl rfl (Nat.le_of_ble_eq_true rfl) z00 ?_
    refine z_iload_n X dX9_tellSteps_20 2 rfl ?_
    refine z_if_le X dX9_tellSteps_21 rfl (fun hc21 => ?_) (fun hc21 => ?_)
    · have hf := ift hc21 hf
      exact (z_Wy_tellSteps_j56 X hd l0 l1 l2 r17 _ hf E hx0 hk)
    · have hf := iff' hc21 hf
      refine z_aload_n X dX9_tellSteps_24 1 rfl ?_
      refine z_bipush X dX9_tellSteps_25 kb_32 kc_32 ?_
      obtain ⟨r27, hr27, hf⟩ := obE hf
      refine y_V0 X cv_RX9_61 dX9_tellSteps_27 g3 (c_By_add d (Nat.zero_le _) l1 32 r17 r27 hr27) (as := [(0, 32)]) rfl rfl (Nat.le_of_ble_eq_true rfl) z00 ?_
      refine z_aload_n X dX9_tellSteps_30 1 rfl ?_
      refine z_aload_n X dX9_tellSteps_31 0 rfl ?_
      refine y_get X fl_RX9_15 dX9_tellSteps_32 g1 ?_
      refine z_iload_n X dX9_tellSteps_35 2 rfl ?_
      obtain ⟨g5, hf⟩ := gif hf
      refine y_iald X dX9_tellSteps_36 g5 ?_
      obtain ⟨r37, hr37, hf⟩ := obE hf
      refine y_V0 X cv_RX9_58 dX9_tellSteps_37 g3 (c_By_addNumber d (Nat.le_trans (by decide) hd) l1 (r27 (r27 l0 5) l2) r27 r37 hr37) (as := [(0, r27 (r27 l0 5) l2)]) rfl rfl (Nat.le_of_ble_eq_true rfl) z00 ?_
      refine z_aload_n X dX9_tellSteps_40 1 rfl ?_
      refine z_bipush X dX9_tellSteps_41 kb_32 kc_32 ?_
      obtain ⟨r43, hr43, hf⟩ := obE hf
      refine y_V0 X cv_RX9_61 dX9_tellSteps_43 g3 (c_By_add d (Nat.zero_le _) l1 32 r37 r43 hr43) (as := [(0, 32)]) rfl rfl (Nat.le_of_ble_eq_true rfl) z00 ?_
      refine z_aload_n X dX9_tellSteps_46 1 rfl ?_
      refine z_aload_n X dX9_tellSteps_47 0 rfl ?_
      refine y_get X fl_RX9_18 dX9_tellSteps_48 g1 ?_
      refine z_iload_n X dX9_tellSteps_51 2 rfl ?_
      obtain ⟨g6, hf⟩ := gif hf
      refine y_iald X dX9_tellSteps_52 g6 ?_
      obtain ⟨r53, hr53, hf⟩ := obE hf
      refine y_V0 X cv_RX9_58 dX9_tellSteps_53 g3 (c_By_addNumber d (Nat.le_trans (by decide) hd) l1 (r43 (r43 l0 6) l2) r43 r53 hr53) (as := [(0, r43 (r43 l0 6) l2)]) rfl rfl (Nat.le_of_ble_eq_true rfl) z00 ?_
      exact (z_Wy_tellSteps_j56 X hd l0 l1 l2 r53 _ hf E hx0 hk)
set_option maxHeartbeats 4000000 in
set_option maxRecDepth 100000 in
theorem c_Wy_tellSteps {l : Launch} {g : GP} (d : Nat) (hd : 2 ≤ d) (l0 l1 : Int) (h : Hp) (y : Hp) (hf : Wy_tellSteps l0 l1 h = some y) : zM l yX9_tellSteps cX9_tellSteps 3 none d 0 0 g 157 h [(2, l0), (2, l1)] 157 y none := by
  obtain ⟨d, rfl⟩ : ∃ k, d = k + 1 := ⟨d - 1, by omega⟩
  replace hd : 1 ≤ d := Nat.le_of_succ_le_succ hd
  refine z_start (by decide) (Nat.le_of_ble_eq_true rfl) (fun x X hK _ _ _ hl => ?_)
  show ZV g x 3 h 0 [(0, (2, l0)), (1, (2, l1))] []
  unfold Wy_tellSteps at hf
  refine z_iconst X dX9_tellSteps_0 kc_0 ?_
  refine z_istore_n X dX9_tellSteps_1 (by decide) (ls' := [(2, (0, 0)), (0, (2, l0)), (1, (2, l1))]) rfl ?_
  obtain ⟨q2, hq2, hf⟩ := obE hf
  have hx2_0 : ∀ e68 : Hp, (e68 : Hp) = q2 → ZV g x 3 e68 68 [] [] := by
    intro e68 hq
    subst hq
    cases hf
    exact z_vret X hK dX9_tellSteps_68
  exact z_weak [1, 2, 0] rfl (z_loop (Z := (fun q : Int × Hp => ZV g x 3 q.2 2 [(0, (2, l0)), (1, (2, l1)), (2, (0, q.1))] [])) (E := fun q => q = q2) (fun q y hb hk => z_Wy_tellSteps_L2 X hd l0 l1 (fun q => q = q2) hx2_0 q.1 q.2 y hb hk) LN (0, h) q2 hq2 rfl)
set_option maxHeartbeats 4000000 in
set_option maxRecDepth 100000 in
theorem c_Wy_pushTask {l : Launch} {g : GP} (d : Nat) (hd : 0 ≤ d) (l0 l1 : Int) (h : Hp) (y : Hp) (hf : Wy_pushTask l0 l1 h = some y) : zM l yX9_pushTask cX9_pushTask 2 none d 0 0 g 157 h [(2, l0), (0, l1)] 157 y none := by
  refine z_start (by decide) (Nat.le_of_ble_eq_true rfl) (fun x X hK _ _ _ hl => ?_)
  show ZV g x 2 h 0 [(0, (2, l0)), (1, (0, l1))] []
  unfold Wy_pushTask at hf
  refine z_aload_n X dX9_pushTask_0 0 rfl ?_
  obtain ⟨g1, hf⟩ := gif hf
  refine y_get X fl_RX9_76 dX9_pushTask_1 g1 ?_
  refine z_sipush X dX9_pushTask_4 ks_1024 kc_1024 ?_
  refine z_icmp_ge X dX9_pushTask_7 rfl (fun hc7 => ?_) (fun hc7 => ?_)
  · have hf := ift hc7 hf
    cases hf
    exact z_vret X hK dX9_pushTask_30
  · have hf := iff' hc7 hf
    refine z_aload_n X dX9_pushTask_10 0 rfl ?_
    refine y_get X fl_RX9_45 dX9_pushTask_11 g1 ?_
    refine z_aload_n X dX9_pushTask_14 0 rfl ?_
    refine y_get X fl_RX9_76 dX9_pushTask_15 g1 ?_
    refine z_iload_n X dX9_pushTask_18 1 rfl ?_
    obtain ⟨g2, hf⟩ := gif hf
    refine y_iast X dX9_pushTask_19 g2 ?_
    let h_1 : Hp := hput h (h l0 13) (h l0 14) l1
    refine z_aload_n X dX9_pushTask_20 0 rfl ?_
    refine z_dup X ne2 dX9_pushTask_21 ?_
    refine y_get X fl_RX9_76 dX9_pushTask_22 g1 ?_
    refine z_iconst X dX9_pushTask_25 kc_1 ?_
    refine z_iadd X dX9_pushTask_26 ?_
    refine y_put X fl_RX9_76 dX9_pushTask_27 g1 rfl (by decide) ?_
    let h_2 : Hp := hput h_1 l0 14 (w32 ((h_1 l0 14) + 1))
    cases hf
    exact z_vret X hK dX9_pushTask_30
set_option maxHeartbeats 4000000 in
set_option maxRecDepth 100000 in
theorem c_Wy_push {l : Launch} {g : GP} (d : Nat) (hd : 1 ≤ d) (l0 l1 l2 l3 : Int) (h : Hp) (y : Hp) (hf : Wy_push l0 l1 l2 l3 h = some y) : zM l yX9_push cX9_push 4 none d 0 0 g 157 h [(2, l0), (0, l1), (0, l2), (0, l3)] 157 y none := by
  obtain ⟨d, rfl⟩ : ∃ k, d = k + 1 := ⟨d - 1, by omega⟩
  replace hd : 0 ≤ d := Nat.le_of_succ_le_succ hd
  refine z_start (by decide) (Nat.le_of_ble_eq_true rfl) (fun x X hK _ _ _ hl => ?_)
  show ZV g x 4 h 0 [(0, (2, l0)), (1, (0, l1)), (2, (0, l2)), (3, (0, l3))] []
  unfold Wy_push at hf
  refine z_aload_n X dX9_push_0 0 rfl ?_
  refine z_iconst X dX9_push_1 kc_2 ?_
  refine z_iload_n X dX9_push_2 1 rfl ?_
  refine z_bipush X dX9_push_3 kb_12 kc_12 ?_
  refine z_imul X dX9_push_5 ?_
  refine z_iload_n X dX9_push_6 2 rfl ?_
  refine z_iadd X dX9_push_7 ?_
  refine z_imul X dX9_push_8 ?_
  refine z_iload_n X dX9_push_9 3 rfl ?_
  refine z_iadd X dX9_push_10 ?_
  obtain ⟨g1, hf⟩ := gif hf
  obtain ⟨r11, hr11, hf⟩ := obE hf
  refine y_V0 X cv_RX9_87 dX9_push_11 g1 (c_Wy_pushTask d (Nat.zero_le _) l0 (w32 ((w32 (2 * (w32 ((w32 (l1 * 12)) + l2)))) + l3)) h r11 hr11) (as := [(0, w32 ((w32 (2 * (w32 ((w32 (l1 * 12)) + l2)))) + l3))]) rfl rfl (Nat.le_of_ble_eq_true rfl) z00 ?_
  cases hf
  exact z_vret X hK dX9_push_14
set_option maxHeartbeats 4000000 in
set_option maxRecDepth 100000 in
theorem c_Wy_blankAhead {l : Launch} {g : GP} (d : Nat) (hd : 1 ≤ d) (l0 : Int) (h : Hp) (y : Hp) (hf : Wy_blankAhead l0 h = some y) : zM l yX9_blankAhead cX9_blankAhead 1 none d 0 0 g 157 h [(2, l0)] 157 y none := by
  obtain ⟨d, rfl⟩ : ∃ k, d = k + 1 := ⟨d - 1, by omega⟩
  replace hd : 0 ≤ d := Nat.le_of_succ_le_succ hd
  refine z_start (by decide) (Nat.le_of_ble_eq_true rfl) (fun x X hK _ _ _ hl => ?_)
  show ZV g x 1 h 0 [(0, (2, l0))] []
  unfold Wy_blankAhead at hf
  refine z_aload_n X dX9_blankAhead_0 0 rfl ?_
  obtain ⟨g1, hf⟩ := gif hf
  refine y_get X fl_RX9_32 dX9_blankAhead_1 g1 ?_
  obtain ⟨g2, hf⟩ := gif hf
  refine y_get X fl_RX9_64 dX9_blankAhead_4 g2 ?_
  refine z_if_le X dX9_blankAhead_7 rfl (fun hc7 => ?_) (fun hc7 => ?_)
  · have hf := ift hc7 hf
    cases hf
    exact z_vret X hK dX9_blankAhead_19
  · have hf := iff' hc7 hf
    refine z_aload_n X dX9_blankAhead_10 0 rfl ?_
    refine y_get X fl_RX9_32 dX9_blankAhead_11 g1 ?_
    refine z_bipush X dX9_blankAhead_14 kb_32 kc_32 ?_
    obtain ⟨r16, hr16, hf⟩ := obE hf
    refine y_V0 X cv_RX9_61 dX9_blankAhead_16 g2 (c_By_add d (Nat.zero_le _) (h l0 9) 32 h r16 hr16) (as := [(0, 32)]) rfl rfl (Nat.le_of_ble_eq_true rfl) z00 ?_
    cases hf
    exact z_vret X hK dX9_blankAhead_19
set_option maxHeartbeats 4000000 in
set_option maxRecDepth 100000 in
theorem z_Wy_growLetter_j84 {g : GP} {x : CX} {d : Nat} (X : zX g x RX9 cX9_growLetter 7 (d + 1)) (hd : 1 ≤ d) (l0 l1 l2 l3 l4 l6 : Int) (h : Hp) (y : Hp) (hf : Wy_growLetter_j84 l0 l1 l2 l3 l4 l6 h = some y) (hK : zE g x none 0 0 157 y none) : ZV g x 7 h 84 [(0, (2, l0)), (1, (2, l1)), (2, (0, l2)), (3, (0, l3)), (4, (0, l4)), (6, (0, l6))] [] := by
  unfold Wy_growLetter_j84 at hf
  refine z_aload_n X dX9_growLetter_84 1 rfl ?_
  refine z_iload X dX9_growLetter_85 4 rfl ?_
  refine z_iconst X dX9_growLetter_87 kc_1 ?_
  obtain ⟨g9, hf⟩ := gif hf
  obtain ⟨r88, hr88, hf⟩ := obE hf
  refine y_V1 X cv_RX9_123 dX9_growLetter_88 g9 (c_Gr_firstOfKind d (Nat.zero_le _) l1 l4 1 h r88 hr88) (as := [(0, l4), (0, 1)]) rfl rfl (Nat.le_of_ble_eq_true rfl) z00 ?_
  refine z_iload_n X dX9_growLetter_91 3 rfl ?_
  refine z_icmp_ne X dX9_growLetter_92 rfl (fun hc92 => ?_) (fun hc92 => ?_)
  · have hf := iff' hc92 hf
    cases hf
    exact z_vret X hK dX9_growLetter_103
  · have hf := ift hc92 hf
    refine z_aload_n X dX9_growLetter_95 0 rfl ?_
    obtain ⟨g10, hf⟩ := gif hf
    refine y_get X fl_RX9_21 dX9_growLetter_96 g10 ?_
    refine z_iload_n X dX9_growLetter_99 2 rfl ?_
    refine z_iload X dX9_growLetter_100 5 rfl ?_
    obtain ⟨g11, hf⟩ := gif hf
    refine y_iast X dX9_growLetter_102 g11 ?_
    let h_1 : Hp := hput h (h l0 7) l2 l6
    cases hf
    exact z_vret X hK dX9_growLetter_103
set_option maxHeartbeats 4000000 in
set_option maxRecDepth 100000 in
theorem c_Wy_growLetter {l : Launch} {g : GP} (d : Nat) (hd : 2 ≤ d) (l0 l1 l2 l3 : Int) (h : Hp) (y : Hp) (hf : Wy_growLetter l0 l1 l2 l3 h = some y) : zM l yX9_growLetter cX9_growLetter 7 none d 0 0 g 157 h [(2, l0), (2, l1), (0, l2), (0, l3)] 157 y none := by
  obtain ⟨d, rfl⟩ : ∃ k, d = k + 1 := ⟨d - 1, by omega⟩
  replace hd : 1 ≤ d := Nat.le_of_succ_le_succ hd
  refine z_start (by decide) (Nat.le_of_ble_eq_true rfl) (fun x X hK _ _ _ hl => ?_)
  show ZV g x 7 h 0 [(0, (2, l0)), (1, (2, l1)), (2, (0, l2)), (3, (0, l3))] []
  unfold Wy_growLetter at hf
  refine z_aload_n X dX9_growLetter_0 0 rfl ?_
  obtain ⟨g1, hf⟩ := gif hf
  refine y_get X fl_RX9_9 dX9_growLetter_1 g1 ?_
  refine z_iload_n X dX9_growLetter_4 2 rfl ?_
  obtain ⟨g2, hf⟩ := gif hf
  refine y_iald X dX9_growLetter_5 g2 ?_
  refine z_istore X dX9_growLetter_6 (by decide) (ls' := [(4, (0, h (h l0 4) l2)), (0, (2, l0)), (1, (2, l1)), (2, (0, l2)), (3, (0, l3))]) rfl ?_
  refine z_aload_n X dX9_growLetter_8 2 rfl ?_
  obtain ⟨g3, hf⟩ := gif hf
  refine y_get X fl_RX9_108 dX9_growLetter_9 g3 ?_
  refine z_aload_n X dX9_growLetter_12 2 rfl ?_
  refine y_get X fl_RX9_90 dX9_growLetter_13 g3 ?_
  refine z_iload X dX9_growLetter_16 0 rfl ?_
  obtain ⟨g4, hf⟩ := gif hf
  refine y_iald X dX9_growLetter_18 g4 ?_
  refine z_iload_n X dX9_growLetter_19 4 rfl ?_
  refine z_iadd X dX9_growLetter_20 ?_
  obtain ⟨g5, hf⟩ := gif hf
  refine y_iald X dX9_growLetter_21 g5 ?_
  refine z_istore X dX9_growLetter_22 (by decide) (ls' := [(5, (0, h (h l1 9) (w32 ((h (h l1 6) (h (h l0 4) l2)) + l3)))), (4, (0, h (h l0 4) l2)), (0, (2, l0)), (1, (2, l1)), (2, (0, l2)), (3, (0, l3))]) rfl ?_
  refine z_aload_n X dX9_growLetter_24 2 rfl ?_
  refine y_get X fl_RX9_36 dX9_growLetter_25 g1 ?_
  obtain ⟨g6, hf⟩ := gif hf
  refine y_get X fl_RX9_64 dX9_growLetter_28 g6 ?_
  refine z_istore X dX9_growLetter_31 (by decide) (ls' := [(6, (0, h (h l0 10) 1)), (5, (0, h (h l1 9) (w32 ((h (h l1 6) (h (h l0 4) l2)) + l3)))), (4, (0, h (h l0 4) l2)), (0, (2, l0)), (1, (2, l1)), (2, (0, l2)), (3, (0, l3))]) rfl ?_
  refine z_aload_n X dX9_growLetter_33 3 rfl ?_
  obtain ⟨r34, hr34, hf⟩ := obE hf
  refine y_V0 X cv_RX9_105 dX9_growLetter_34 g1 (c_Wy_blankAhead d (Nat.le_trans (by decide) hd) l0 h r34 hr34) (as := []) rfl rfl (Nat.le_of_ble_eq_true rfl) z00 ?_
  refine z_aload_n X dX9_growLetter_37 3 rfl ?_
  refine y_get X fl_RX9_32 dX9_growLetter_38 g1 ?_
  refine z_bipush X dX9_growLetter_41 kb_97 kc_97 ?_
  refine z_iload X dX9_growLetter_43 1 rfl ?_
  refine z_iadd X dX9_growLetter_45 ?_
  obtain ⟨g7, hf⟩ := gif hf
  obtain ⟨r46, hr46, hf⟩ := obE hf
  refine y_V0 X cv_RX9_61 dX9_growLetter_46 g7 (c_By_add d (Nat.zero_le _) (r34 l0 9) (w32 (97 + (h (h l1 9) (w32 ((h (h l1 6) (h (h l0 4) l2)) + l3))))) r34 r46 hr46) (as := [(0, w32 (97 + (h (h l1 9) (w32 ((h (h l1 6) (h (h l0 4) l2)) + l3)))))]) rfl rfl (Nat.le_of_ble_eq_true rfl) z00 ?_
  refine z_iload X dX9_growLetter_49 0 rfl ?_
  refine z_aload_n X dX9_growLetter_51 3 rfl ?_
  refine y_get X fl_RX9_39 dX9_growLetter_52 g1 ?_
  obtain ⟨g8, hf⟩ := gif hf
  refine y_alen X dX9_growLetter_55 (by omega) ?_
  refine z_icmp_ge X dX9_growLetter_56 rfl (fun hc56 => ?_) (fun hc56 => ?_)
  · have hf := ift hc56 hf
    exact z_weak [3, 4, 5, 6, 2, 0] rfl (z_Wy_growLetter_j84 X hd l0 l1 l2 l3 (h (h l0 4) l2) (h (h l0 10) 1) r46 _ hf hK)
  · have hf := iff' hc56 hf
    refine z_aload_n X dX9_growLetter_59 3 rfl ?_
    refine y_get X fl_RX9_39 dX9_growLetter_60 g1 ?_
    refine z_iload X dX9_growLetter_63 0 rfl ?_
    refine z_iload_n X dX9_growLetter_65 5 rfl ?_
    obtain ⟨g12, hf⟩ := gif hf
    refine y_iast X dX9_growLetter_66 g12 ?_
    let h_2 : Hp := hput r46 (r46 l0 11) (h (h l0 10) 1) l2
    refine z_aload_n X dX9_growLetter_67 3 rfl ?_
    refine y_get X fl_RX9_42 dX9_growLetter_68 g1 ?_
    refine z_iload X dX9_growLetter_71 0 rfl ?_
    refine z_iload_n X dX9_growLetter_73 6 rfl ?_
    obtain ⟨g13, hf⟩ := gif hf
    refine y_iast X dX9_growLetter_74 g13 ?_
    let h_3 : Hp := hput h_2 (h_2 l0 12) (h (h l0 10) 1) l3
    refine z_aload_n X dX9_growLetter_75 3 rfl ?_
    refine y_get X fl_RX9_36 dX9_growLetter_76 g1 ?_
    refine z_iload X dX9_growLetter_79 1 rfl ?_
    obtain ⟨g14, hf⟩ := gif hf
    obtain ⟨r81, hr81, hf⟩ := obE hf
    refine y_V0 X cv_RX9_61 dX9_growLetter_81 g14 (c_By_add d (Nat.zero_le _) (h_3 l0 10) (h (h l1 9) (w32 ((h (h l1 6) (h (h l0 4) l2)) + l3))) h_3 r81 hr81) (as := [(0, h (h l1 9) (w32 ((h (h l1 6) (h (h l0 4) l2)) + l3)))]) rfl rfl (Nat.le_of_ble_eq_true rfl) z00 ?_
    exact z_weak [3, 4, 5, 6, 2, 0] rfl (z_Wy_growLetter_j84 X hd l0 l1 l2 l3 (h (h l0 4) l2) (h (h l0 10) 1) r81 _ hf hK)
set_option maxHeartbeats 4000000 in
set_option maxRecDepth 100000 in
theorem z_Wy_unfoldBranch_j113 {g : GP} {x : CX} {d : Nat} (X : zX g x RX9 cX9_unfoldBranch 6 (d + 1)) (hd : 1 ≤ d) (l0 l1 l2 l3 l4 : Int) (h : Hp) (y : Hp) (hf : Wy_unfoldBranch_j113 l0 l1 l2 l3 l4 h = some y) (hK : zE g x none 0 0 157 y none) : ZV g x 6 h 113 [(0, (2, l0)), (1, (2, l1)), (2, (0, l2)), (3, (0, l3)), (4, (0, l4))] [] := by
  unfold Wy_unfoldBranch_j113 at hf
  refine z_aload_n X dX9_unfoldBranch_113 0 rfl ?_
  refine z_iload_n X dX9_unfoldBranch_114 2 rfl ?_
  refine z_aload_n X dX9_unfoldBranch_115 1 rfl ?_
  obtain ⟨g9, hf⟩ := gif hf
  refine y_get X fl_RX9_120 dX9_unfoldBranch_116 g9 ?_
  refine z_iload X dX9_unfoldBranch_119 4 rfl ?_
  refine z_iload_n X dX9_unfoldBranch_121 3 rfl ?_
  refine z_iadd X dX9_unfoldBranch_122 ?_
  obtain ⟨g10, hf⟩ := gif hf
  refine y_iald X dX9_unfoldBranch_123 g10 ?_
  refine z_iload X dX9_unfoldBranch_124 4 rfl ?_
  refine z_isub X dX9_unfoldBranch_126 ?_
  refine z_iconst X dX9_unfoldBranch_127 kc_1 ?_
  obtain ⟨g11, hf⟩ := gif hf
  obtain ⟨r128, hr128, hf⟩ := obE hf
  refine y_V0 X cv_RX9_79 dX9_unfoldBranch_128 g11 (c_Wy_push d (Nat.le_trans (by decide) hd) l0 l2 (w32 ((h (h l1 11) (w32 (l4 + l3))) - l4)) 1 h r128 hr128) (as := [(0, l2), (0, w32 ((h (h l1 11) (w32 (l4 + l3))) - l4)), (0, 1)]) rfl rfl (Nat.le_of_ble_eq_true rfl) z00 ?_
  cases hf
  exact z_vret X hK dX9_unfoldBranch_131
set_option maxHeartbeats 4000000 in
set_option maxRecDepth 100000 in
theorem c_Wy_unfoldBranch {l : Launch} {g : GP} (d : Nat) (hd : 2 ≤ d) (l0 l1 l2 l3 : Int) (h : Hp) (y : Hp) (hf : Wy_unfoldBranch l0 l1 l2 l3 h = some y) : zM l yX9_unfoldBranch cX9_unfoldBranch 6 none d 0 0 g 157 h [(2, l0), (2, l1), (0, l2), (0, l3)] 157 y none := by
  obtain ⟨d, rfl⟩ : ∃ k, d = k + 1 := ⟨d - 1, by omega⟩
  replace hd : 1 ≤ d := Nat.le_of_succ_le_succ hd
  refine z_start (by decide) (Nat.le_of_ble_eq_true rfl) (fun x X hK _ _ _ hl => ?_)
  show ZV g x 6 h 0 [(0, (2, l0)), (1, (2, l1)), (2, (0, l2)), (3, (0, l3))] []
  unfold Wy_unfoldBranch at hf
  refine z_aload_n X dX9_unfoldBranch_0 1 rfl ?_
  obtain ⟨g1, hf⟩ := gif hf
  refine y_get X fl_RX9_90 dX9_unfoldBranch_1 g1 ?_
  refine z_aload_n X dX9_unfoldBranch_4 0 rfl ?_
  obtain ⟨g2, hf⟩ := gif hf
  refine y_get X fl_RX9_9 dX9_unfoldBranch_5 g2 ?_
  refine z_iload_n X dX9_unfoldBranch_8 2 rfl ?_
  obtain ⟨g3, hf⟩ := gif hf
  refine y_iald X dX9_unfoldBranch_9 g3 ?_
  obtain ⟨g4, hf⟩ := gif hf
  refine y_iald X dX9_unfoldBranch_10 g4 ?_
  refine z_istore X dX9_unfoldBranch_11 (by decide) (ls' := [(4, (0, h (h l1 6) (h (h l0 4) l2))), (0, (2, l0)), (1, (2, l1)), (2, (0, l2)), (3, (0, l3))]) rfl ?_
  refine z_aload_n X dX9_unfoldBranch_13 1 rfl ?_
  obtain ⟨r14, hr14, hf⟩ := obE hf
  refine y_V0 X cv_RX9_105 dX9_unfoldBranch_14 g2 (c_Wy_blankAhead d (Nat.le_trans (by decide) hd) l0 h r14 hr14) (as := []) rfl rfl (Nat.le_of_ble_eq_true rfl) z00 ?_
  refine z_aload_n X dX9_unfoldBranch_17 1 rfl ?_
  refine y_get X fl_RX9_32 dX9_unfoldBranch_18 g2 ?_
  refine z_bipush X dX9_unfoldBranch_21 kb_40 kc_40 ?_
  obtain ⟨g5, hf⟩ := gif hf
  obtain ⟨r23, hr23, hf⟩ := obE hf
  refine y_V0 X cv_RX9_61 dX9_unfoldBranch_23 g5 (c_By_add d (Nat.zero_le _) (r14 l0 9) 40 r14 r23 hr23) (as := [(0, 40)]) rfl rfl (Nat.le_of_ble_eq_true rfl) z00 ?_
  refine z_aload_n X dX9_unfoldBranch_26 1 rfl ?_
  refine y_get X fl_RX9_32 dX9_unfoldBranch_27 g2 ?_
  refine z_bipush X dX9_unfoldBranch_30 kb_65 kc_65 ?_
  refine z_aload_n X dX9_unfoldBranch_32 2 rfl ?_
  refine y_get X fl_RX9_108 dX9_unfoldBranch_33 g1 ?_
  refine z_iload X dX9_unfoldBranch_36 0 rfl ?_
  refine z_iload_n X dX9_unfoldBranch_38 4 rfl ?_
  refine z_iadd X dX9_unfoldBranch_39 ?_
  obtain ⟨g6, hf⟩ := gif hf
  refine y_iald X dX9_unfoldBranch_40 g6 ?_
  refine z_iadd X dX9_unfoldBranch_41 ?_
  obtain ⟨g7, hf⟩ := gif hf
  obtain ⟨r42, hr42, hf⟩ := obE hf
  refine y_V0 X cv_RX9_61 dX9_unfoldBranch_42 g7 (c_By_add d (Nat.zero_le _) (r23 l0 9) (w32 (65 + (r23 (r23 l1 9) (w32 ((h (h l1 6) (h (h l0 4) l2)) + l3))))) r23 r42 hr42) (as := [(0, w32 (65 + (r23 (r23 l1 9) (w32 ((h (h l1 6) (h (h l0 4) l2)) + l3)))))]) rfl rfl (Nat.le_of_ble_eq_true rfl) z00 ?_
  refine z_aload_n X dX9_unfoldBranch_45 1 rfl ?_
  refine z_dup X ne2 dX9_unfoldBranch_46 ?_
  refine y_get X fl_RX9_70 dX9_unfoldBranch_47 g2 ?_
  refine z_iconst X dX9_unfoldBranch_50 kc_1 ?_
  refine z_iadd X dX9_unfoldBranch_51 ?_
  refine y_put X fl_RX9_70 dX9_unfoldBranch_52 g2 rfl (by decide) ?_
  let h_1 : Hp := hput r42 l0 3 (w32 ((r42 l0 3) + 1))
  refine z_aload_n X dX9_unfoldBranch_55 1 rfl ?_
  refine z_dup X ne2 dX9_unfoldBranch_56 ?_
  refine y_get X fl_RX9_73 dX9_unfoldBranch_57 g2 ?_
  refine z_iconst X dX9_unfoldBranch_60 kc_1 ?_
  refine z_iadd X dX9_unfoldBranch_61 ?_
  refine y_put X fl_RX9_73 dX9_unfoldBranch_62 g2 rfl (by decide) ?_
  let h_2 : Hp := hput h_1 l0 15 (w32 ((h_1 l0 15) + 1))
  refine z_aload_n X dX9_unfoldBranch_65 1 rfl ?_
  refine z_aload_n X dX9_unfoldBranch_66 1 rfl ?_
  refine y_get X fl_RX9_67 dX9_unfoldBranch_67 g2 ?_
  refine z_aload_n X dX9_unfoldBranch_70 1 rfl ?_
  refine y_get X fl_RX9_73 dX9_unfoldBranch_71 g2 ?_
  refine y_max X cm_RX9_111 dX9_unfoldBranch_74 (Nat.le_of_ble_eq_true rfl) ?_
  refine y_put X fl_RX9_67 dX9_unfoldBranch_77 g2 rfl (by decide) ?_
  let h_3 : Hp := hput h_2 l0 2 (max (h_2 l0 2) (h_2 l0 15))
  refine z_aload_n X dX9_unfoldBranch_80 1 rfl ?_
  refine z_iconst X dX9_unfoldBranch_81 kc_m1 ?_
  obtain ⟨r82, hr82, hf⟩ := obE hf
  refine y_V0 X cv_RX9_87 dX9_unfoldBranch_82 g2 (c_Wy_pushTask d (Nat.zero_le _) l0 ((-1)) h_3 r82 hr82) (as := [(0, (-1))]) rfl rfl (Nat.le_of_ble_eq_true rfl) z00 ?_
  refine z_aload_n X dX9_unfoldBranch_85 2 rfl ?_
  refine y_get X fl_RX9_117 dX9_unfoldBranch_86 g1 ?_
  refine z_iload X dX9_unfoldBranch_89 0 rfl ?_
  refine z_iload_n X dX9_unfoldBranch_91 4 rfl ?_
  refine z_iadd X dX9_unfoldBranch_92 ?_
  obtain ⟨g8, hf⟩ := gif hf
  refine y_iald X dX9_unfoldBranch_93 g8 ?_
  refine z_istore X dX9_unfoldBranch_94 (by decide) (ls' := [(5, (0, r82 (r82 l1 12) (w32 ((h (h l1 6) (h (h l0 4) l2)) + l3)))), (4, (0, h (h l1 6) (h (h l0 4) l2))), (0, (2, l0)), (1, (2, l1)), (2, (0, l2)), (3, (0, l3))]) rfl ?_
  refine z_iload X dX9_unfoldBranch_96 0 rfl ?_
  refine z_iconst X dX9_unfoldBranch_98 kc_m1 ?_
  refine z_icmp_eq X dX9_unfoldBranch_99 rfl (fun hc99 => ?_) (fun hc99 => ?_)
  · have hf := ift hc99 hf
    exact z_weak [2, 3, 4, 5, 1] rfl (z_Wy_unfoldBranch_j113 X hd l0 l1 l2 l3 (h (h l1 6) (h (h l0 4) l2)) r82 _ hf hK)
  · have hf := iff' hc99 hf
    refine z_aload_n X dX9_unfoldBranch_102 2 rfl ?_
    refine z_iload_n X dX9_unfoldBranch_103 4 rfl ?_
    refine z_iload X dX9_unfoldBranch_104 0 rfl ?_
    refine z_iload X dX9_unfoldBranch_106 1 rfl ?_
    refine z_isub X dX9_unfoldBranch_108 ?_
    refine z_iconst X dX9_unfoldBranch_109 kc_1 ?_
    obtain ⟨r110, hr110, hf⟩ := obE hf
    refine y_V0 X cv_RX9_79 dX9_unfoldBranch_110 g2 (c_Wy_push d (Nat.le_trans (by decide) hd) l0 l2 (w32 ((r82 (r82 l1 12) (w32 ((h (h l1 6) (h (h l0 4) l2)) + l3))) - (h (h l1 6) (h (h l0 4) l2)))) 1 r82 r110 hr110) (as := [(0, l2), (0, w32 ((r82 (r82 l1 12) (w32 ((h (h l1 6) (h (h l0 4) l2)) + l3))) - (h (h l1 6) (h (h l0 4) l2)))), (0, 1)]) rfl rfl (Nat.le_of_ble_eq_true rfl) z00 ?_
    exact z_weak [2, 3, 4, 5, 1] rfl (z_Wy_unfoldBranch_j113 X hd l0 l1 l2 l3 (h (h l1 6) (h (h l0 4) l2)) r110 _ hf hK)
set_option maxHeartbeats 4000000 in
set_option maxRecDepth 100000 in
theorem z_Wy_unfoldNode_j86 {g : GP} {x : CX} {d : Nat} (X : zX g x RX9 cX9_unfoldNode 8 (d + 1)) (hd : 2 ≤ d) (l0 l1 l2 l3 l6 : Int) (h : Hp) (y : Hp) (hf : Wy_unfoldNode_j86 l0 l1 l2 l3 l6 h = some y) (hK : zE g x none 0 0 157 y none) : ZV g x 8 h 86 [(0, (2, l0)), (1, (2, l1)), (2, (0, l2)), (3, (0, l3)), (6, (0, l6))] [] := by
  unfold Wy_unfoldNode_j86 at hf
  refine z_iload X dX9_unfoldNode_86 4 rfl ?_
  refine z_if_ne X dX9_unfoldNode_88 rfl (fun hc88 => ?_) (fun hc88 => ?_)
  · have hf := iff' hc88 hf
    refine z_iload X dX9_unfoldNode_101 4 rfl ?_
    refine z_iconst X dX9_unfoldNode_103 kc_1 ?_
    refine z_icmp_ne X dX9_unfoldNode_104 rfl (fun hc104 => ?_) (fun hc104 => ?_)
    · have hf := iff' hc104 hf
      refine z_iload X dX9_unfoldNode_117 4 rfl ?_
      refine z_iconst X dX9_unfoldNode_119 kc_2 ?_
      refine z_icmp_ne X dX9_unfoldNode_120 rfl (fun hc120 => ?_) (fun hc120 => ?_)
      · have hf := iff' hc120 hf
        cases hf
        exact z_vret X hK dX9_unfoldNode_136
      · have hf := ift hc120 hf
        refine z_aload_n X dX9_unfoldNode_123 0 rfl ?_
        obtain ⟨g7, hf⟩ := gif hf
        obtain ⟨r124, hr124, hf⟩ := obE hf
        refine y_V0 X cv_RX9_105 dX9_unfoldNode_124 g7 (c_Wy_blankAhead d (Nat.le_trans (by decide) hd) l0 h r124 hr124) (as := []) rfl rfl (Nat.le_of_ble_eq_true rfl) z00 ?_
        refine z_aload_n X dX9_unfoldNode_127 0 rfl ?_
        refine y_get X fl_RX9_32 dX9_unfoldNode_128 g7 ?_
        refine z_bipush X dX9_unfoldNode_131 kb_46 kc_46 ?_
        obtain ⟨g8, hf⟩ := gif hf
        obtain ⟨r133, hr133, hf⟩ := obE hf
        refine y_V0 X cv_RX9_61 dX9_unfoldNode_133 g8 (c_By_add d (Nat.zero_le _) (r124 l0 9) 46 r124 r133 hr133) (as := [(0, 46)]) rfl rfl (Nat.le_of_ble_eq_true rfl) z00 ?_
        cases hf
        exact z_vret X hK dX9_unfoldNode_136
    · have hf := ift hc104 hf
      refine z_aload_n X dX9_unfoldNode_107 0 rfl ?_
      refine z_aload_n X dX9_unfoldNode_108 1 rfl ?_
      refine z_iload_n X dX9_unfoldNode_109 2 rfl ?_
      refine z_iload_n X dX9_unfoldNode_110 3 rfl ?_
      obtain ⟨g9, hf⟩ := gif hf
      obtain ⟨r111, hr111, hf⟩ := obE hf
      refine y_V0 X cv_RX9_102 dX9_unfoldNode_111 g9 (c_Wy_growLetter d (Nat.le_trans (by decide) hd) l0 l1 l2 l3 h r111 hr111) (as := [(2, l1), (0, l2), (0, l3)]) rfl rfl (Nat.le_of_ble_eq_true rfl) z00 ?_
      refine z_goto X dX9_unfoldNode_114 rfl ?_
      cases hf
      exact z_vret X hK dX9_unfoldNode_136
  · have hf := ift hc88 hf
    refine z_aload_n X dX9_unfoldNode_91 0 rfl ?_
    refine z_aload_n X dX9_unfoldNode_92 1 rfl ?_
    refine z_iload_n X dX9_unfoldNode_93 2 rfl ?_
    refine z_iload_n X dX9_unfoldNode_94 3 rfl ?_
    obtain ⟨g10, hf⟩ := gif hf
    obtain ⟨r95, hr95, hf⟩ := obE hf
    refine y_V0 X cv_RX9_98 dX9_unfoldNode_95 g10 (c_Wy_unfoldBranch d (Nat.le_trans (by decide) hd) l0 l1 l2 l3 h r95 hr95) (as := [(2, l1), (0, l2), (0, l3)]) rfl rfl (Nat.le_of_ble_eq_true rfl) z00 ?_
    refine z_goto X dX9_unfoldNode_98 rfl ?_
    cases hf
    exact z_vret X hK dX9_unfoldNode_136
set_option maxHeartbeats 4000000 in
set_option maxRecDepth 100000 in
theorem c_Wy_unfoldNode {l : Launch} {g : GP} (d : Nat) (hd : 3 ≤ d) (l0 l1 l2 l3 l4 : Int) (h : Hp) (y : Hp) (hf : Wy_unfoldNode l0 l1 l2 l3 l4 h = some y) : zM l yX9_unfoldNode cX9_unfoldNode 8 none d 0 0 g 157 h [(2, l0), (2, l1), (0, l2), (0, l3), (0, l4)] 157 y none := by
  obtain ⟨d, rfl⟩ : ∃ k, d = k + 1 := ⟨d - 1, by omega⟩
  replace hd : 2 ≤ d := Nat.le_of_succ_le_succ hd
  refine z_start (by decide) (Nat.le_of_ble_eq_true rfl) (fun x X hK _ _ _ hl => ?_)
  show ZV g x 8 h 0 [(0, (2, l0)), (1, (2, l1)), (2, (0, l2)), (3, (0, l3)), (4, (0, l4))] []
  unfold Wy_unfoldNode at hf
  refine z_aload_n X dX9_unfoldNode_0 1 rfl ?_
  obtain ⟨g1, hf⟩ := gif hf
  refine y_get X fl_RX9_90 dX9_unfoldNode_1 g1 ?_
  refine z_aload_n X dX9_unfoldNode_4 0 rfl ?_
  obtain ⟨g2, hf⟩ := gif hf
  refine y_get X fl_RX9_9 dX9_unfoldNode_5 g2 ?_
  refine z_iload_n X dX9_unfoldNode_8 2 rfl ?_
  obtain ⟨g3, hf⟩ := gif hf
  refine y_iald X dX9_unfoldNode_9 g3 ?_
  obtain ⟨g4, hf⟩ := gif hf
  refine y_iald X dX9_unfoldNode_10 g4 ?_
  refine z_istore X dX9_unfoldNode_11 (by decide) (ls' := [(5, (0, h (h l1 6) (h (h l0 4) l2))), (0, (2, l0)), (1, (2, l1)), (2, (0, l2)), (3, (0, l3)), (4, (0, l4))]) rfl ?_
  refine z_aload_n X dX9_unfoldNode_13 2 rfl ?_
  refine y_get X fl_RX9_95 dX9_unfoldNode_14 g1 ?_
  refine z_iload X dX9_unfoldNode_17 0 rfl ?_
  refine z_iload_n X dX9_unfoldNode_19 4 rfl ?_
  refine z_iadd X dX9_unfoldNode_20 ?_
  obtain ⟨g5, hf⟩ := gif hf
  refine y_iald X dX9_unfoldNode_21 g5 ?_
  refine z_istore X dX9_unfoldNode_22 (by decide) (ls' := [(6, (0, h (h l1 8) (w32 ((h (h l1 6) (h (h l0 4) l2)) + l3)))), (5, (0, h (h l1 6) (h (h l0 4) l2))), (0, (2, l0)), (1, (2, l1)), (2, (0, l2)), (3, (0, l3)), (4, (0, l4))]) rfl ?_
  refine z_aload_n X dX9_unfoldNode_24 2 rfl ?_
  refine y_get X fl_RX9_24 dX9_unfoldNode_25 g2 ?_
  refine z_iload_n X dX9_unfoldNode_28 4 rfl ?_
  refine z_bipush X dX9_unfoldNode_29 kb_12 kc_12 ?_
  refine z_imul X dX9_unfoldNode_31 ?_
  refine z_iload_n X dX9_unfoldNode_32 5 rfl ?_
  refine z_iadd X dX9_unfoldNode_33 ?_
  obtain ⟨g6, hf⟩ := gif hf
  refine y_iald X dX9_unfoldNode_34 g6 ?_
  refine z_istore X dX9_unfoldNode_35 (by decide) (ls' := [(7, (0, h (h l0 8) (w32 ((w32 (l2 * 12)) + l3)))), (6, (0, h (h l1 8) (w32 ((h (h l1 6) (h (h l0 4) l2)) + l3)))), (5, (0, h (h l1 6) (h (h l0 4) l2))), (0, (2, l0)), (1, (2, l1)), (2, (0, l2)), (3, (0, l3)), (4, (0, l4))]) rfl ?_
  refine z_iload X dX9_unfoldNode_37 1 rfl ?_
  refine z_iconst X dX9_unfoldNode_39 kc_3 ?_
  refine z_icmp_ne X dX9_unfoldNode_40 rfl (fun hc40 => ?_) (fun hc40 => ?_)
  · have hf := iff' hc40 hf
    refine z_iload X dX9_unfoldNode_63 0 rfl ?_
    refine z_iconst X dX9_unfoldNode_65 kc_m1 ?_
    refine z_icmp_eq X dX9_unfoldNode_66 rfl (fun hc66 => ?_) (fun hc66 => ?_)
    · have hf := ift hc66 hf
      exact z_weak [3, 4, 5, 6, 1] rfl (z_Wy_unfoldNode_j86 X hd l0 l1 l2 l3 (h (h l1 8) (w32 ((h (h l1 6) (h (h l0 4) l2)) + l3))) h _ hf hK)
    · have hf := iff' hc66 hf
      refine z_iload X dX9_unfoldNode_69 7 rfl ?_
      refine z_iconst X dX9_unfoldNode_71 kc_1 ?_
      refine z_icmp_ne X dX9_unfoldNode_72 rfl (fun hc72 => ?_) (fun hc72 => ?_)
      · have hf := iff' hc72 hf
        exact z_weak [3, 4, 5, 6, 1] rfl (z_Wy_unfoldNode_j86 X hd l0 l1 l2 l3 (h (h l1 8) (w32 ((h (h l1 6) (h (h l0 4) l2)) + l3))) h _ hf hK)
      · have hf := ift hc72 hf
        refine z_aload_n X dX9_unfoldNode_75 3 rfl ?_
        refine z_iload X dX9_unfoldNode_76 0 rfl ?_
        refine z_iconst X dX9_unfoldNode_78 kc_0 ?_
        refine z_iconst X dX9_unfoldNode_79 kc_1 ?_
        obtain ⟨r80, hr80, hf⟩ := obE hf
        refine y_V0 X cv_RX9_79 dX9_unfoldNode_80 g2 (c_Wy_push d (Nat.le_trans (by decide) hd) l0 (h (h l0 8) (w32 ((w32 (l2 * 12)) + l3))) 0 1 h r80 hr80) (as := [(0, h (h l0 8) (w32 ((w32 (l2 * 12)) + l3))), (0, 0), (0, 1)]) rfl rfl (Nat.le_of_ble_eq_true rfl) z00 ?_
        refine z_goto X dX9_unfoldNode_83 rfl ?_
        cases hf
        exact z_vret X hK dX9_unfoldNode_136
  · have hf := ift hc40 hf
    refine z_aload_n X dX9_unfoldNode_43 3 rfl ?_
    refine z_aload_n X dX9_unfoldNode_44 3 rfl ?_
    refine y_get X fl_RX9_15 dX9_unfoldNode_45 g2 ?_
    refine z_iload_n X dX9_unfoldNode_48 5 rfl ?_
    obtain ⟨g11, hf⟩ := gif hf
    refine y_iald X dX9_unfoldNode_49 g11 ?_
    refine z_aload_n X dX9_unfoldNode_50 3 rfl ?_
    refine y_get X fl_RX9_18 dX9_unfoldNode_51 g2 ?_
    refine z_iload_n X dX9_unfoldNode_54 5 rfl ?_
    obtain ⟨g12, hf⟩ := gif hf
    refine y_iald X dX9_unfoldNode_55 g12 ?_
    refine z_iconst X dX9_unfoldNode_56 kc_0 ?_
    obtain ⟨r57, hr57, hf⟩ := obE hf
    refine y_V0 X cv_RX9_79 dX9_unfoldNode_57 g2 (c_Wy_push d (Nat.le_trans (by decide) hd) l0 (h (h l0 5) l2) (h (h l0 6) l2) 0 h r57 hr57) (as := [(0, h (h l0 5) l2), (0, h (h l0 6) l2), (0, 0)]) rfl rfl (Nat.le_of_ble_eq_true rfl) z00 ?_
    refine z_goto X dX9_unfoldNode_60 rfl ?_
    cases hf
    exact z_vret X hK dX9_unfoldNode_136
set_option maxHeartbeats 4000000 in
set_option maxRecDepth 100000 in
theorem z_Wy_unfold_j129 {g : GP} {x : CX} {d : Nat} (X : zX g x RX9 cX9_unfold 5 (d + 1)) (hd : 3 ≤ d) (l0 l1 l2 : Int) (h : Hp) (y : (Int × Hp) ⊕ (Hp)) (hf : Wy_unfold_j129 l0 l1 l2 h = some y) (E : Hp → Prop) (hx0 : ∀ e : Hp, E (e) → ZV g x 5 e 135 [] []) (hk : z_sum (fun q : Int × Hp => ZV g x 5 q.2 45 [(0, (2, l0)), (1, (2, l1)), (2, (0, q.1))] []) E y) : ZV g x 5 h 129 [(0, (2, l0)), (1, (2, l1)), (2, (0, l2))] [] := by
  unfold Wy_unfold_j129 at hf
  refine z_iinc X dX9_unfold_129 2 rfl (by decide) (ls' := [(2, (0, w32 (l2 + 1))), (0, (2, l0)), (1, (2, l1))]) rfl ?_
  refine z_goto X dX9_unfold_132 rfl ?_
  cases hf
  exact z_weak [1, 2, 0] rfl hk
set_option maxHeartbeats 4000000 in
set_option maxRecDepth 100000 in
theorem z_Wy_unfold_L45 {g : GP} {x : CX} {d : Nat} (X : zX g x RX9 cX9_unfold 5 (d + 1)) (hd : 3 ≤ d) (l0 l1 : Int)  (E : Hp → Prop) (hx0 : ∀ e : Hp, E (e) → ZV g x 5 e 135 [] []) (l2 : Int) (h : Hp) (y : (Int × Hp) ⊕ (Hp)) (hf : Wy_unfold_L45 l0 l1 l2 h = some y) (hk : z_sum (fun q : Int × Hp => ZV g x 5 q.2 45 [(0, (2, l0)), (1, (2, l1)), (2, (0, q.1))] []) E y) : ZV g x 5 h 45 [(0, (2, l0)), (1, (2, l1)), (2, (0, l2))] [] := by
  unfold Wy_unfold_L45 at hf
  refine z_iload_n X dX9_unfold_45 2 rfl ?_
  refine z_sipush X dX9_unfold_46 ks_4096 kc_4096 ?_
  refine z_icmp_ge X dX9_unfold_49 rfl (fun hc49 => ?_) (fun hc49 => ?_)
  · have hf := ift hc49 hf
    cases hf
    exact z_weak [] rfl (hx0 _ hk)
  · have hf := iff' hc49 hf
    refine z_aload_n X dX9_unfold_52 0 rfl ?_
    obtain ⟨g4, hf⟩ := gif hf
    refine y_get X fl_RX9_76 dX9_unfold_53 g4 ?_
    refine z_if_le X dX9_unfold_56 rfl (fun hc56 => ?_) (fun hc56 => ?_)
    · have hf := ift hc56 hf
      cases hf
      exact z_weak [] rfl (hx0 _ hk)
    · have hf := iff' hc56 hf
      refine z_aload_n X dX9_unfold_59 0 rfl ?_
      refine z_dup X ne2 dX9_unfold_60 ?_
      refine y_get X fl_RX9_76 dX9_unfold_61 g4 ?_
      refine z_iconst X dX9_unfold_64 kc_1 ?_
      refine z_isub X dX9_unfold_65 ?_
      refine y_put X fl_RX9_76 dX9_unfold_66 g4 rfl (by decide) ?_
      let h_7 : Hp := hput h l0 14 (w32 ((h l0 14) - 1))
      refine z_aload_n X dX9_unfold_69 0 rfl ?_
      refine y_get X fl_RX9_45 dX9_unfold_70 g4 ?_
      refine z_aload_n X dX9_unfold_73 0 rfl ?_
      refine y_get X fl_RX9_76 dX9_unfold_74 g4 ?_
      obtain ⟨g5, hf⟩ := gif hf
      refine y_iald X dX9_unfold_77 g5 ?_
      refine z_istore_n X dX9_unfold_78 (by decide) (ls' := [(3, (0, h_7 (h_7 l0 13) (h_7 l0 14))), (0, (2, l0)), (1, (2, l1)), (2, (0, l2))]) rfl ?_
      refine z_iload_n X dX9_unfold_79 0 rfl ?_
      refine z_iconst X dX9_unfold_80 kc_m1 ?_
      refine z_icmp_ne X dX9_unfold_81 rfl (fun hc81 => ?_) (fun hc81 => ?_)
      · have hf := iff' hc81 hf
        refine z_iload_n X dX9_unfold_106 0 rfl ?_
        refine z_iconst X dX9_unfold_107 kc_1 ?_
        refine z_ishr X dX9_unfold_108 ?_
        refine z_istore X dX9_unfold_109 (by decide) (ls' := [(4, (0, i_shr (h_7 (h_7 l0 13) (h_7 l0 14)) 1)), (3, (0, h_7 (h_7 l0 13) (h_7 l0 14))), (0, (2, l0)), (1, (2, l1)), (2, (0, l2))]) rfl ?_
        refine z_aload_n X dX9_unfold_111 2 rfl ?_
        refine z_aload_n X dX9_unfold_112 3 rfl ?_
        refine z_iload X dX9_unfold_113 0 rfl ?_
        refine z_bipush X dX9_unfold_115 kb_12 kc_12 ?_
        refine z_idiv X dX9_unfold_117 (by decide) ?_
        refine z_iload X dX9_unfold_118 0 rfl ?_
        refine z_bipush X dX9_unfold_120 kb_12 kc_12 ?_
        refine z_irem X dX9_unfold_122 (by decide) ?_
        refine z_iload_n X dX9_unfold_123 1 rfl ?_
        refine z_iconst X dX9_unfold_124 kc_1 ?_
        refine z_iand X dX9_unfold_125 ?_
        obtain ⟨r126, hr126, hf⟩ := obE hf
        refine y_V0 X cv_RX9_83 dX9_unfold_126 g4 (c_Wy_unfoldNode d (Nat.le_trans (by decide) hd) l0 l1 (w32 (Int.tdiv (i_shr (h_7 (h_7 l0 13) (h_7 l0 14)) 1) 12)) (w32 (Int.tmod (i_shr (h_7 (h_7 l0 13) (h_7 l0 14)) 1) 12)) (i_and (h_7 (h_7 l0 13) (h_7 l0 14)) 1) h_7 r126 hr126) (as := [(2, l1), (0, w32 (Int.tdiv (i_shr (h_7 (h_7 l0 13) (h_7 l0 14)) 1) 12)), (0, w32 (Int.tmod (i_shr (h_7 (h_7 l0 13) (h_7 l0 14)) 1) 12)), (0, i_and (h_7 (h_7 l0 13) (h_7 l0 14)) 1)]) rfl rfl (Nat.le_of_ble_eq_true rfl) z00 ?_
        exact z_weak [2, 3, 4] rfl (z_Wy_unfold_j129 X hd l0 l1 l2 r126 _ hf E hx0 hk)
      · have hf := ift hc81 hf
        refine z_aload_n X dX9_unfold_84 1 rfl ?_
        refine y_get X fl_RX9_32 dX9_unfold_85 g4 ?_
        refine z_bipush X dX9_unfold_88 kb_41 kc_41 ?_
        obtain ⟨g6, hf⟩ := gif hf
        obtain ⟨r90, hr90, hf⟩ := obE hf
        refine y_V0 X cv_RX9_61 dX9_unfold_90 g6 (c_By_add d (Nat.zero_le _) (h_7 l0 9) 41 h_7 r90 hr90) (as := [(0, 41)]) rfl rfl (Nat.le_of_ble_eq_true rfl) z00 ?_
        refine z_aload_n X dX9_unfold_93 1 rfl ?_
        refine z_dup X ne2 dX9_unfold_94 ?_
        refine y_get X fl_RX9_73 dX9_unfold_95 g4 ?_
        refine z_iconst X dX9_unfold_98 kc_1 ?_
        refine z_isub X dX9_unfold_99 ?_
        refine y_put X fl_RX9_73 dX9_unfold_100 g4 rfl (by decide) ?_
        let h_8 : Hp := hput r90 l0 15 (w32 ((r90 l0 15) - 1))
        refine z_goto X dX9_unfold_103 rfl ?_
        exact z_weak [1, 2, 3] rfl (z_Wy_unfold_j129 X hd l0 l1 l2 h_8 _ hf E hx0 hk)
