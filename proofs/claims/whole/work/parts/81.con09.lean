set_option maxHeartbeats 4000000 in
set_option maxRecDepth 100000 in
theorem c_WF_goAbove {l : Launch} {g : GP} (d : Nat) (hd : 3 ≤ d) (l0 l1 : Int) (h : Hp) (y : Hp) (hf : WF_goAbove l0 l1 h = some y) : zM l yX10_goAbove cX10_goAbove 4 none d 0 0 g 157 h [(2, l0), (0, l1)] 157 y none := by
  obtain ⟨d, rfl⟩ : ∃ k, d = k + 1 := ⟨d - 1, by omega⟩
  replace hd : 2 ≤ d := Nat.le_of_succ_le_succ hd
  refine z_start (by decide) (Nat.le_of_ble_eq_true rfl) (fun x X hK _ _ _ hl => ?_)
  show ZV g x 4 h 0 [(0, (2, l0)), (1, (0, l1))] []
  unfold WF_goAbove at hf
  refine z_aload_n X dX10_goAbove_0 0 rfl ?_
  obtain ⟨g1, hf⟩ := gif hf
  refine y_get X fl_RX10_32 dX10_goAbove_1 g1 ?_
  obtain ⟨g2, hf⟩ := gif hf
  refine y_get X fl_RX10_124 dX10_goAbove_4 g2 ?_
  refine z_iload_n X dX10_goAbove_7 1 rfl ?_
  obtain ⟨g3, hf⟩ := gif hf
  refine y_iald X dX10_goAbove_8 g3 ?_
  refine z_iconst X dX10_goAbove_9 kc_2 ?_
  refine z_icmp_eq X dX10_goAbove_10 rfl (fun hc10 => ?_) (fun hc10 => ?_)
  · have hf := ift hc10 hf
    exact (z_WF_goAbove_j95 X hd l0 l1 h _ hf hK)
  · have hf := iff' hc10 hf
    refine z_aload_n X dX10_goAbove_13 0 rfl ?_
    refine y_get X fl_RX10_22 dX10_goAbove_14 g1 ?_
    refine z_iload_n X dX10_goAbove_17 1 rfl ?_
    refine z_iconst X dX10_goAbove_18 kc_0 ?_
    refine z_aload_n X dX10_goAbove_19 0 rfl ?_
    refine y_get X fl_RX10_46 dX10_goAbove_20 g1 ?_
    refine z_aload_n X dX10_goAbove_23 0 rfl ?_
    refine y_get X fl_RX10_52 dX10_goAbove_24 g1 ?_
    refine z_aload_n X dX10_goAbove_27 0 rfl ?_
    refine y_get X fl_RX10_100 dX10_goAbove_28 g1 ?_
    refine z_aload_n X dX10_goAbove_31 0 rfl ?_
    refine y_get X fl_RX10_103 dX10_goAbove_32 g1 ?_
    obtain ⟨g10, hf⟩ := gif hf
    obtain ⟨r35, hr35, hf⟩ := obE hf
    refine y_V1 X cv_RX10_108 dX10_goAbove_35 g10 (c_Ch_value d (Nat.le_trans (by decide) hd) (h l0 0) l1 0 (h l0 10) (h l0 11) (h l0 12) (h l0 13) h r35 hr35) (as := [(0, l1), (0, 0), (0, h l0 10), (0, h l0 11), (0, h l0 12), (0, h l0 13)]) rfl rfl (Nat.le_of_ble_eq_true rfl) z00 ?_
    refine z_lstore_n X dX10_goAbove_38 (by decide) (ls' := [(2, (1, r35)), (0, (2, l0)), (1, (0, l1))]) rfl ?_
    refine z_aload_n X dX10_goAbove_39 1 rfl ?_
    refine y_get X fl_RX10_55 dX10_goAbove_40 g1 ?_
    refine z_lload_n X dX10_goAbove_43 0 rfl ?_
    refine z_l_ge X dX10_goAbove_44 dX10_goAbove_45 rfl (fun hc44 => ?_) (fun hc44 => ?_)
    · have hf := ift hc44 hf
      refine z_aload_n X dX10_goAbove_85 1 rfl ?_
      refine z_dup X ne2 dX10_goAbove_86 ?_
      refine y_get X fl_RX10_55 dX10_goAbove_87 g1 ?_
      refine z_lload_n X dX10_goAbove_90 0 rfl ?_
      refine z_lsub X dX10_goAbove_91 ?_
      refine y_put X fl_RX10_55 dX10_goAbove_92 g1 rfl (by decide) ?_
      let h_1 : Hp := hput h l0 9 (w64 ((h l0 9) - r35))
      exact z_weak [1, 2] rfl (z_WF_goAbove_j95 X hd l0 l1 h_1 _ hf hK)
    · have hf := iff' hc44 hf
      refine z_aload_n X dX10_goAbove_48 1 rfl ?_
      refine z_aload_n X dX10_goAbove_49 1 rfl ?_
      refine y_get X fl_RX10_78 dX10_goAbove_50 g1 ?_
      refine z_aload_n X dX10_goAbove_53 1 rfl ?_
      refine y_get X fl_RX10_81 dX10_goAbove_54 g1 ?_
      refine z_iconst X dX10_goAbove_57 kc_0 ?_
      refine z_aload_n X dX10_goAbove_58 1 rfl ?_
      refine y_get X fl_RX10_46 dX10_goAbove_59 g1 ?_
      refine z_aload_n X dX10_goAbove_62 1 rfl ?_
      refine y_get X fl_RX10_52 dX10_goAbove_63 g1 ?_
      refine z_aload_n X dX10_goAbove_66 1 rfl ?_
      refine y_get X fl_RX10_100 dX10_goAbove_67 g1 ?_
      refine z_aload_n X dX10_goAbove_70 1 rfl ?_
      refine y_get X fl_RX10_103 dX10_goAbove_71 g1 ?_
      obtain ⟨r74, hr74, hf⟩ := obE hf
      refine y_S1 X cs_RX10_116 dX10_goAbove_74 (c_WF_cover d (Nat.zero_le _) (h l0 10) (h l0 11) (h l0 12) (h l0 13) h r74 hr74) (as := [(0, h l0 10), (0, h l0 11), (0, h l0 12), (0, h l0 13)]) rfl rfl (Nat.le_of_ble_eq_true rfl) z00 ?_
      refine z_aload_n X dX10_goAbove_77 1 rfl ?_
      refine y_get X fl_RX10_55 dX10_goAbove_78 g1 ?_
      obtain ⟨r81, hr81, hf⟩ := obE hf
      refine y_V0 X cv_RX10_120 dX10_goAbove_81 g1 (c_WF_push d (Nat.zero_le _) l0 (h l0 7) (h l0 8) 0 r74 (h l0 9) h r81 hr81) (as := [(0, h l0 7), (0, h l0 8), (0, 0), (0, r74), (1, h l0 9)]) rfl rfl (Nat.le_of_ble_eq_true rfl) z00 ?_
      cases hf
      exact z_vret X hK dX10_goAbove_84
set_option maxHeartbeats 4000000 in
set_option maxRecDepth 100000 in
theorem c_WF_valueOf {l : Launch} {g : GP} (d : Nat) (hd : 2 ≤ d) (l0 l1 l2 : Int) (h : Hp) (y : Int) (hf : WF_valueOf l0 l1 l2 h = some y) : zM l yX10_valueOf cX10_valueOf 3 (some .long) d 0 0 g 157 h [(2, l0), (0, l1), (0, l2)] 157 h (some (1, y)) := by
  obtain ⟨d, rfl⟩ : ∃ k, d = k + 1 := ⟨d - 1, by omega⟩
  replace hd : 1 ≤ d := Nat.le_of_succ_le_succ hd
  refine z_start (by decide) (Nat.le_of_ble_eq_true rfl) (fun x X hK _ _ _ hl => ?_)
  show ZV g x 3 h 0 [(0, (2, l0)), (1, (0, l1)), (2, (0, l2))] []
  unfold WF_valueOf at hf
  refine z_aload_n X dX10_valueOf_0 0 rfl ?_
  obtain ⟨g1, hf⟩ := gif hf
  refine y_get X fl_RX10_22 dX10_valueOf_1 g1 ?_
  refine z_iload_n X dX10_valueOf_4 1 rfl ?_
  refine z_iconst X dX10_valueOf_5 kc_1 ?_
  refine z_iload_n X dX10_valueOf_6 2 rfl ?_
  refine z_bipush X dX10_valueOf_7 kb_12 kc_12 ?_
  refine z_ishr X dX10_valueOf_9 ?_
  refine z_bipush X dX10_valueOf_10 kb_15 kc_15 ?_
  refine z_iand X dX10_valueOf_12 ?_
  refine z_iload_n X dX10_valueOf_13 2 rfl ?_
  refine z_bipush X dX10_valueOf_14 kb_8 kc_8 ?_
  refine z_ishr X dX10_valueOf_16 ?_
  refine z_bipush X dX10_valueOf_17 kb_15 kc_15 ?_
  refine z_iand X dX10_valueOf_19 ?_
  refine z_iload_n X dX10_valueOf_20 2 rfl ?_
  refine z_iconst X dX10_valueOf_21 kc_4 ?_
  refine z_ishr X dX10_valueOf_22 ?_
  refine z_bipush X dX10_valueOf_23 kb_15 kc_15 ?_
  refine z_iand X dX10_valueOf_25 ?_
  refine z_iload_n X dX10_valueOf_26 2 rfl ?_
  refine z_bipush X dX10_valueOf_27 kb_15 kc_15 ?_
  refine z_iand X dX10_valueOf_29 ?_
  obtain ⟨g2, hf⟩ := gif hf
  obtain ⟨r30, hr30, hf⟩ := obE hf
  refine y_V1 X cv_RX10_108 dX10_valueOf_30 g2 (c_Ch_value d (Nat.le_trans (by decide) hd) (h l0 0) l1 1 (i_and (i_shr l2 12) 15) (i_and (i_shr l2 8) 15) (i_and (i_shr l2 4) 15) (i_and l2 15) h r30 hr30) (as := [(0, l1), (0, 1), (0, i_and (i_shr l2 12) 15), (0, i_and (i_shr l2 8) 15), (0, i_and (i_shr l2 4) 15), (0, i_and l2 15)]) rfl rfl (Nat.le_of_ble_eq_true rfl) z00 ?_
  cases hf
  exact z_lret X hK dX10_valueOf_33
set_option maxHeartbeats 4000000 in
set_option maxRecDepth 100000 in
theorem z_WF_goBelow_j333 {g : GP} {x : CX} {d : Nat} (X : zX g x RX10 cX10_goBelow 14 (d + 1)) (hd : 2 ≤ d) (l0 l2 l3 l4 l5 l6 l7 s0 s1 s2 : Int) (h : Hp) (y : (Int × Hp) ⊕ ((Int × Int × Int × Hp) ⊕ (Hp))) (hf : WF_goBelow_j333 l0 l2 l3 l4 l5 l6 l7 s0 s1 s2 h = some y) (E : (Int × Int × Int × Hp) ⊕ (Hp) → Prop) (hx0 : ∀ e : Int × Int × Int × Hp, E (.inl e) → ZV g x 14 e.2.2.2 261 [(0, (2, l0)), (2, (0, l2)), (3, (0, l3)), (4, (0, l4)), (8, (0, e.1)), (9, (0, e.2.1)), (12, (1, e.2.2.1))] []) (hx1 : ∀ e : Hp, E (.inr e) → ZV g x 14 e 343 [] []) (hk : z_sum (fun q : Int × Hp => ZV g x 14 q.2 131 [(0, (2, l0)), (2, (0, l2)), (3, (0, l3)), (4, (0, l4)), (5, (0, l5)), (6, (0, l6)), (7, (0, q.1))] []) E y) : ZV g x 14 h 333 [(0, (2, l0)), (2, (0, l2)), (3, (0, l3)), (4, (0, l4)), (5, (0, l5)), (6, (0, l6)), (7, (0, l7))] [(1, s0), (1, s1), (2, s2)] := by
  unfold WF_goBelow_j333 at hf
  refine z_lsub X dX10_goBelow_333 ?_
  obtain ⟨g14, hf⟩ := gif hf
  refine y_put X fl_RX10_55 dX10_goBelow_334 g14 rfl (by decide) ?_
  let h_1 : Hp := hput h s2 9 (w64 (s1 - s0))
  refine z_iinc X dX10_goBelow_337 6 rfl (by decide) (ls' := [(7, (0, w32 (l7 + 1))), (0, (2, l0)), (2, (0, l2)), (3, (0, l3)), (4, (0, l4)), (5, (0, l5)), (6, (0, l6))]) rfl ?_
  refine z_goto X dX10_goBelow_340 rfl ?_
  cases hf
  exact z_weak [1, 2, 3, 4, 5, 6, 0] rfl hk
set_option maxHeartbeats 4000000 in
set_option maxRecDepth 100000 in
theorem z_WF_goBelow_j332 {g : GP} {x : CX} {d : Nat} (X : zX g x RX10 cX10_goBelow 14 (d + 1)) (hd : 2 ≤ d) (l0 l2 l3 l4 l5 l6 l7 s0 s1 : Int) (h : Hp) (y : (Int × Hp) ⊕ ((Int × Int × Int × Hp) ⊕ (Hp))) (hf : WF_goBelow_j332 l0 l2 l3 l4 l5 l6 l7 s0 s1 h = some y) (E : (Int × Int × Int × Hp) ⊕ (Hp) → Prop) (hx0 : ∀ e : Int × Int × Int × Hp, E (.inl e) → ZV g x 14 e.2.2.2 261 [(0, (2, l0)), (2, (0, l2)), (3, (0, l3)), (4, (0, l4)), (8, (0, e.1)), (9, (0, e.2.1)), (12, (1, e.2.2.1))] []) (hx1 : ∀ e : Hp, E (.inr e) → ZV g x 14 e 343 [] []) (hk : z_sum (fun q : Int × Hp => ZV g x 14 q.2 131 [(0, (2, l0)), (2, (0, l2)), (3, (0, l3)), (4, (0, l4)), (5, (0, l5)), (6, (0, l6)), (7, (0, q.1))] []) E y) : ZV g x 14 h 332 [(0, (2, l0)), (2, (0, l2)), (3, (0, l3)), (4, (0, l4)), (5, (0, l5)), (6, (0, l6)), (7, (0, l7))] [(1, s0), (2, s1)] := by
  unfold WF_goBelow_j332 at hf
  refine z_lconst0 X dX10_goBelow_332 ?_
  exact (z_WF_goBelow_j333 X hd l0 l2 l3 l4 l5 l6 l7 0 s0 s1 h _ hf E hx0 hx1 hk)
set_option maxHeartbeats 4000000 in
set_option maxRecDepth 100000 in
theorem z_WF_goBelow_j305 {g : GP} {x : CX} {d : Nat} (X : zX g x RX10 cX10_goBelow 14 (d + 1)) (hd : 2 ≤ d) (l0 l2 l3 l4 l5 l6 l7 l10 l12 : Int) (h : Hp) (y : (Int × Hp) ⊕ ((Int × Int × Int × Hp) ⊕ (Hp))) (hf : WF_goBelow_j305 l0 l2 l3 l4 l5 l6 l7 l10 l12 h = some y) (E : (Int × Int × Int × Hp) ⊕ (Hp) → Prop) (hx0 : ∀ e : Int × Int × Int × Hp, E (.inl e) → ZV g x 14 e.2.2.2 261 [(0, (2, l0)), (2, (0, l2)), (3, (0, l3)), (4, (0, l4)), (8, (0, e.1)), (9, (0, e.2.1)), (12, (1, e.2.2.1))] []) (hx1 : ∀ e : Hp, E (.inr e) → ZV g x 14 e 343 [] []) (hk : z_sum (fun q : Int × Hp => ZV g x 14 q.2 131 [(0, (2, l0)), (2, (0, l2)), (3, (0, l3)), (4, (0, l4)), (5, (0, l5)), (6, (0, l6)), (7, (0, q.1))] []) E y) : ZV g x 14 h 305 [(0, (2, l0)), (2, (0, l2)), (3, (0, l3)), (4, (0, l4)), (5, (0, l5)), (6, (0, l6)), (7, (0, l7)), (10, (1, l10)), (12, (1, l12))] [] := by
  unfold WF_goBelow_j305 at hf
  refine z_aload_n X dX10_goBelow_305 0 rfl ?_
  refine z_dup X ne2 dX10_goBelow_306 ?_
  obtain ⟨g13, hf⟩ := gif hf
  refine y_get X fl_RX10_55 dX10_goBelow_307 g13 ?_
  refine z_lload X dX10_goBelow_310 8 rfl ?_
  refine z_lconst0 X dX10_goBelow_312 ?_
  refine z_l_le X dX10_goBelow_313 dX10_goBelow_314 rfl (fun hc313 => ?_) (fun hc313 => ?_)
  · have hf := ift hc313 hf
    exact z_weak [0, 1, 2, 3, 4, 5, 6] rfl (z_WF_goBelow_j332 X hd l0 l2 l3 l4 l5 l6 l7 (h l0 9) l0 h _ hf E hx0 hx1 hk)
  · have hf := iff' hc313 hf
    refine z_lload X dX10_goBelow_317 7 rfl ?_
    refine z_lconst0 X dX10_goBelow_319 ?_
    refine z_l_le X dX10_goBelow_320 dX10_goBelow_321 rfl (fun hc320 => ?_) (fun hc320 => ?_)
    · have hf := ift hc320 hf
      exact z_weak [0, 1, 2, 3, 4, 5, 6] rfl (z_WF_goBelow_j332 X hd l0 l2 l3 l4 l5 l6 l7 (h l0 9) l0 h _ hf E hx0 hx1 hk)
    · have hf := iff' hc320 hf
      refine z_lload X dX10_goBelow_324 8 rfl ?_
      refine z_lload X dX10_goBelow_326 7 rfl ?_
      refine z_lmul X dX10_goBelow_328 ?_
      refine z_goto X dX10_goBelow_329 rfl ?_
      exact z_weak [0, 1, 2, 3, 4, 5, 6] rfl (z_WF_goBelow_j333 X hd l0 l2 l3 l4 l5 l6 l7 (w64 (l12 * l10)) (h l0 9) l0 h _ hf E hx0 hx1 hk)
set_option maxHeartbeats 4000000 in
set_option maxRecDepth 100000 in
theorem z_WF_goBelow_j220 {g : GP} {x : CX} {d : Nat} (X : zX g x RX10 cX10_goBelow 14 (d + 1)) (hd : 2 ≤ d) (l0 l2 l3 l4 l5 l6 l7 l8 s0 : Int) (h : Hp) (y : (Int × Hp) ⊕ ((Int × Int × Int × Hp) ⊕ (Hp))) (hf : WF_goBelow_j220 l0 l2 l3 l4 l5 l6 l7 l8 s0 h = some y) (E : (Int × Int × Int × Hp) ⊕ (Hp) → Prop) (hx0 : ∀ e : Int × Int × Int × Hp, E (.inl e) → ZV g x 14 e.2.2.2 261 [(0, (2, l0)), (2, (0, l2)), (3, (0, l3)), (4, (0, l4)), (8, (0, e.1)), (9, (0, e.2.1)), (12, (1, e.2.2.1))] []) (hx1 : ∀ e : Hp, E (.inr e) → ZV g x 14 e 343 [] []) (hk : z_sum (fun q : Int × Hp => ZV g x 14 q.2 131 [(0, (2, l0)), (2, (0, l2)), (3, (0, l3)), (4, (0, l4)), (5, (0, l5)), (6, (0, l6)), (7, (0, q.1))] []) E y) : ZV g x 14 h 220 [(0, (2, l0)), (2, (0, l2)), (3, (0, l3)), (4, (0, l4)), (5, (0, l5)), (6, (0, l6)), (7, (0, l7)), (8, (0, l8))] [(0, s0)] := by
  unfold WF_goBelow_j220 at hf
  refine z_istore X dX10_goBelow_220 (by decide) (ls' := [(9, (0, s0)), (0, (2, l0)), (2, (0, l2)), (3, (0, l3)), (4, (0, l4)), (5, (0, l5)), (6, (0, l6)), (7, (0, l7)), (8, (0, l8))]) rfl ?_
  refine z_aload_n X dX10_goBelow_222 1 rfl ?_
  refine z_iload_n X dX10_goBelow_223 3 rfl ?_
  refine z_iload X dX10_goBelow_224 8 rfl ?_
  obtain ⟨g12, hf⟩ := gif hf
  obtain ⟨r226, hr226, hf⟩ := obE hf
  refine y_V1 X cv_RX10_144 dX10_goBelow_226 g12 (c_WF_valueOf d (Nat.le_trans (by decide) hd) l0 l3 l8 h r226 hr226) (as := [(0, l3), (0, l8)]) rfl rfl (Nat.le_of_ble_eq_true rfl) z00 ?_
  refine z_lstore X dX10_goBelow_229 (by decide) (ls' := [(10, (1, r226)), (9, (0, s0)), (0, (2, l0)), (2, (0, l2)), (3, (0, l3)), (4, (0, l4)), (5, (0, l5)), (6, (0, l6)), (7, (0, l7)), (8, (0, l8))]) rfl ?_
  refine z_aload_n X dX10_goBelow_231 2 rfl ?_
  refine z_iload X dX10_goBelow_232 5 rfl ?_
  refine z_iload X dX10_goBelow_234 1 rfl ?_
  obtain ⟨r236, hr236, hf⟩ := obE hf
  refine y_V1 X cv_RX10_144 dX10_goBelow_236 g12 (c_WF_valueOf d (Nat.le_trans (by decide) hd) l0 l4 s0 h r236 hr236) (as := [(0, l4), (0, s0)]) rfl rfl (Nat.le_of_ble_eq_true rfl) z00 ?_
  refine z_lstore X dX10_goBelow_239 (by decide) (ls' := [(12, (1, r236)), (10, (1, r226)), (9, (0, s0)), (0, (2, l0)), (2, (0, l2)), (3, (0, l3)), (4, (0, l4)), (5, (0, l5)), (6, (0, l6)), (7, (0, l7)), (8, (0, l8))]) rfl ?_
  refine z_lload X dX10_goBelow_241 0 rfl ?_
  refine z_lconst0 X dX10_goBelow_243 ?_
  refine z_l_le X dX10_goBelow_244 dX10_goBelow_245 rfl (fun hc244 => ?_) (fun hc244 => ?_)
  · have hf := ift hc244 hf
    exact z_weak [3, 4, 5, 6, 7, 8, 9, 1, 0] rfl (z_WF_goBelow_j305 X hd l0 l2 l3 l4 l5 l6 l7 r226 r236 h _ hf E hx0 hx1 hk)
  · have hf := iff' hc244 hf
    refine z_aload_n X dX10_goBelow_248 3 rfl ?_
    refine y_get X fl_RX10_55 dX10_goBelow_249 g12 ?_
    refine z_lload X dX10_goBelow_252 0 rfl ?_
    obtain ⟨g15, hf⟩ := gif hf
    refine z_ldiv X dX10_goBelow_254 g15 ?_
    refine z_lload X dX10_goBelow_255 1 rfl ?_
    refine z_l_ge X dX10_goBelow_257 dX10_goBelow_258 rfl (fun hc257 => ?_) (fun hc257 => ?_)
    · have hf := ift hc257 hf
      exact z_weak [3, 4, 5, 6, 7, 8, 9, 1, 0] rfl (z_WF_goBelow_j305 X hd l0 l2 l3 l4 l5 l6 l7 r226 r236 h _ hf E hx0 hx1 hk)
    · have hf := iff' hc257 hf
      cases hf
      exact z_weak [3, 4, 5, 6, 10, 2, 0] rfl (hx0 _ hk)
set_option maxHeartbeats 4000000 in
set_option maxRecDepth 100000 in
theorem z_WF_goBelow_j176 {g : GP} {x : CX} {d : Nat} (X : zX g x RX10 cX10_goBelow 14 (d + 1)) (hd : 2 ≤ d) (l0 l2 l3 l4 l5 l6 l7 s0 : Int) (h : Hp) (y : (Int × Hp) ⊕ ((Int × Int × Int × Hp) ⊕ (Hp))) (hf : WF_goBelow_j176 l0 l2 l3 l4 l5 l6 l7 s0 h = some y) (E : (Int × Int × Int × Hp) ⊕ (Hp) → Prop) (hx0 : ∀ e : Int × Int × Int × Hp, E (.inl e) → ZV g x 14 e.2.2.2 261 [(0, (2, l0)), (2, (0, l2)), (3, (0, l3)), (4, (0, l4)), (8, (0, e.1)), (9, (0, e.2.1)), (12, (1, e.2.2.1))] []) (hx1 : ∀ e : Hp, E (.inr e) → ZV g x 14 e 343 [] []) (hk : z_sum (fun q : Int × Hp => ZV g x 14 q.2 131 [(0, (2, l0)), (2, (0, l2)), (3, (0, l3)), (4, (0, l4)), (5, (0, l5)), (6, (0, l6)), (7, (0, q.1))] []) E y) : ZV g x 14 h 176 [(0, (2, l0)), (2, (0, l2)), (3, (0, l3)), (4, (0, l4)), (5, (0, l5)), (6, (0, l6)), (7, (0, l7))] [(0, s0)] := by
  unfold WF_goBelow_j176 at hf
  refine z_istore X dX10_goBelow_176 (by decide) (ls' := [(8, (0, s0)), (0, (2, l0)), (2, (0, l2)), (3, (0, l3)), (4, (0, l4)), (5, (0, l5)), (6, (0, l6)), (7, (0, l7))]) rfl ?_
  refine z_iload X dX10_goBelow_178 5 rfl ?_
  refine z_if_eq X dX10_goBelow_180 rfl (fun hc180 => ?_) (fun hc180 => ?_)
  · have hf := ift hc180 hf
    refine z_iload X dX10_goBelow_203 7 rfl ?_
    refine z_aload_n X dX10_goBelow_205 1 rfl ?_
    obtain ⟨g11, hf⟩ := gif hf
    refine y_get X fl_RX10_52 dX10_goBelow_206 g11 ?_
    refine z_aload_n X dX10_goBelow_209 1 rfl ?_
    refine y_get X fl_RX10_100 dX10_goBelow_210 g11 ?_
    refine z_aload_n X dX10_goBelow_213 1 rfl ?_
    refine y_get X fl_RX10_103 dX10_goBelow_214 g11 ?_
    obtain ⟨r217, hr217, hf⟩ := obE hf
    refine y_S1 X cs_RX10_116 dX10_goBelow_217 (c_WF_cover d (Nat.zero_le _) l7 (h l0 11) (h l0 12) (h l0 13) h r217 hr217) (as := [(0, l7), (0, h l0 11), (0, h l0 12), (0, h l0 13)]) rfl rfl (Nat.le_of_ble_eq_true rfl) z00 ?_
    exact z_weak [1, 2, 3, 4, 5, 6, 7, 0] rfl (z_WF_goBelow_j220 X hd l0 l2 l3 l4 l5 l6 l7 s0 r217 h _ hf E hx0 hx1 hk)
  · have hf := iff' hc180 hf
    refine z_iload X dX10_goBelow_183 7 rfl ?_
    refine z_aload_n X dX10_goBelow_185 1 rfl ?_
    obtain ⟨g16, hf⟩ := gif hf
    refine y_get X fl_RX10_52 dX10_goBelow_186 g16 ?_
    refine z_aload_n X dX10_goBelow_189 1 rfl ?_
    refine y_get X fl_RX10_52 dX10_goBelow_190 g16 ?_
    refine z_aload_n X dX10_goBelow_193 1 rfl ?_
    refine y_get X fl_RX10_52 dX10_goBelow_194 g16 ?_
    obtain ⟨r197, hr197, hf⟩ := obE hf
    refine y_S1 X cs_RX10_116 dX10_goBelow_197 (c_WF_cover d (Nat.zero_le _) l7 (h l0 11) (h l0 11) (h l0 11) h r197 hr197) (as := [(0, l7), (0, h l0 11), (0, h l0 11), (0, h l0 11)]) rfl rfl (Nat.le_of_ble_eq_true rfl) z00 ?_
    refine z_goto X dX10_goBelow_200 rfl ?_
    exact z_weak [1, 2, 3, 4, 5, 6, 7, 0] rfl (z_WF_goBelow_j220 X hd l0 l2 l3 l4 l5 l6 l7 s0 r197 h _ hf E hx0 hx1 hk)
set_option maxHeartbeats 4000000 in
set_option maxRecDepth 100000 in
theorem z_WF_goBelow_L131 {g : GP} {x : CX} {d : Nat} (X : zX g x RX10 cX10_goBelow 14 (d + 1)) (hd : 2 ≤ d) (l0 l2 l3 l4 l5 l6 : Int)  (E : (Int × Int × Int × Hp) ⊕ (Hp) → Prop) (hx0 : ∀ e : Int × Int × Int × Hp, E (.inl e) → ZV g x 14 e.2.2.2 261 [(0, (2, l0)), (2, (0, l2)), (3, (0, l3)), (4, (0, l4)), (8, (0, e.1)), (9, (0, e.2.1)), (12, (1, e.2.2.1))] []) (hx1 : ∀ e : Hp, E (.inr e) → ZV g x 14 e 343 [] []) (l7 : Int) (h : Hp) (y : (Int × Hp) ⊕ ((Int × Int × Int × Hp) ⊕ (Hp))) (hf : WF_goBelow_L131 l0 l2 l3 l4 l5 l6 l7 h = some y) (hk : z_sum (fun q : Int × Hp => ZV g x 14 q.2 131 [(0, (2, l0)), (2, (0, l2)), (3, (0, l3)), (4, (0, l4)), (5, (0, l5)), (6, (0, l6)), (7, (0, q.1))] []) E y) : ZV g x 14 h 131 [(0, (2, l0)), (2, (0, l2)), (3, (0, l3)), (4, (0, l4)), (5, (0, l5)), (6, (0, l6)), (7, (0, l7))] [] := by
  unfold WF_goBelow_L131 at hf
  refine z_iload X dX10_goBelow_131 6 rfl ?_
  refine z_iload X dX10_goBelow_133 5 rfl ?_
  refine z_icmp_gt X dX10_goBelow_135 rfl (fun hc135 => ?_) (fun hc135 => ?_)
  · have hf := ift hc135 hf
    cases hf
    exact z_weak [] rfl (hx1 _ hk)
  · have hf := iff' hc135 hf
    refine z_iload X dX10_goBelow_138 4 rfl ?_
    refine z_if_eq X dX10_goBelow_140 rfl (fun hc140 => ?_) (fun hc140 => ?_)
    · have hf := ift hc140 hf
      refine z_aload_n X dX10_goBelow_163 0 rfl ?_
      obtain ⟨g10, hf⟩ := gif hf
      refine y_get X fl_RX10_46 dX10_goBelow_164 g10 ?_
      refine z_iload X dX10_goBelow_167 6 rfl ?_
      refine z_iload X dX10_goBelow_169 6 rfl ?_
      refine z_iload X dX10_goBelow_171 6 rfl ?_
      obtain ⟨r173, hr173, hf⟩ := obE hf
      refine y_S1 X cs_RX10_116 dX10_goBelow_173 (c_WF_cover d (Nat.zero_le _) (h l0 10) l7 l7 l7 h r173 hr173) (as := [(0, h l0 10), (0, l7), (0, l7), (0, l7)]) rfl rfl (Nat.le_of_ble_eq_true rfl) z00 ?_
      exact (z_WF_goBelow_j176 X hd l0 l2 l3 l4 l5 l6 l7 r173 h _ hf E hx0 hx1 hk)
    · have hf := iff' hc140 hf
      refine z_aload_n X dX10_goBelow_143 0 rfl ?_
      obtain ⟨g17, hf⟩ := gif hf
      refine y_get X fl_RX10_46 dX10_goBelow_144 g17 ?_
      refine z_iload X dX10_goBelow_147 6 rfl ?_
      refine z_aload_n X dX10_goBelow_149 0 rfl ?_
      refine y_get X fl_RX10_100 dX10_goBelow_150 g17 ?_
      refine z_aload_n X dX10_goBelow_153 0 rfl ?_
      refine y_get X fl_RX10_103 dX10_goBelow_154 g17 ?_
      obtain ⟨r157, hr157, hf⟩ := obE hf
      refine y_S1 X cs_RX10_116 dX10_goBelow_157 (c_WF_cover d (Nat.zero_le _) (h l0 10) l7 (h l0 12) (h l0 13) h r157 hr157) (as := [(0, h l0 10), (0, l7), (0, h l0 12), (0, h l0 13)]) rfl rfl (Nat.le_of_ble_eq_true rfl) z00 ?_
      refine z_goto X dX10_goBelow_160 rfl ?_
      exact (z_WF_goBelow_j176 X hd l0 l2 l3 l4 l5 l6 l7 r157 h _ hf E hx0 hx1 hk)
set_option maxHeartbeats 4000000 in
set_option maxRecDepth 100000 in
theorem z_WF_goBelow_j129 {g : GP} {x : CX} {d : Nat} (X : zX g x RX10 cX10_goBelow 14 (d + 1)) (hd : 2 ≤ d) (l0 l2 l3 l4 l5 l6 s0 : Int) (h : Hp) (y : Hp) (hf : WF_goBelow_j129 l0 l2 l3 l4 l5 l6 s0 h = some y) (hK : zE g x none 0 0 157 y none) : ZV g x 14 h 129 [(0, (2, l0)), (2, (0, l2)), (3, (0, l3)), (4, (0, l4)), (5, (0, l5)), (6, (0, l6))] [(0, s0)] := by
  unfold WF_goBelow_j129 at hf
  refine z_istore X dX10_goBelow_129 (by decide) (ls' := [(7, (0, s0)), (0, (2, l0)), (2, (0, l2)), (3, (0, l3)), (4, (0, l4)), (5, (0, l5)), (6, (0, l6))]) rfl ?_
  obtain ⟨q131, hq131, hf⟩ := obE hf
  have hx131_0 : ∀ e261 : Int × Int × Int × Hp, (.inl e261 : (Int × Int × Int × Hp) ⊕ (Hp)) = q131 → ZV g x 14 e261.2.2.2 261 [(0, (2, l0)), (2, (0, l2)), (3, (0, l3)), (4, (0, l4)), (8, (0, e261.1)), (9, (0, e261.2.1)), (12, (1, e261.2.2.1))] [] := by
    intro e261 hq
    subst hq
    dsimp only at hf
    refine z_aload_n X dX10_goBelow_261 0 rfl ?_
    refine z_aload_n X dX10_goBelow_262 0 rfl ?_
    obtain ⟨g18, hf⟩ := gif hf
    refine y_get X fl_RX10_78 dX10_goBelow_263 g18 ?_
    refine z_iload X dX10_goBelow_266 3 rfl ?_
    refine z_iload_n X dX10_goBelow_268 1 rfl ?_
    refine z_isub X dX10_goBelow_269 ?_
    refine z_iconst X dX10_goBelow_270 kc_1 ?_
    refine z_iload X dX10_goBelow_271 5 rfl ?_
    refine z_aload_n X dX10_goBelow_273 0 rfl ?_
    refine y_get X fl_RX10_55 dX10_goBelow_274 g18 ?_
    refine z_lload X dX10_goBelow_277 6 rfl ?_
    obtain ⟨g19, hf⟩ := gif hf
    refine z_lrem X dX10_goBelow_279 g19 ?_
    obtain ⟨r280, hr280, hf⟩ := obE hf
    refine y_V0 X cv_RX10_120 dX10_goBelow_280 g18 (c_WF_push d (Nat.zero_le _) l0 (e261.2.2.2 l0 7) (w32 (l4 - l2)) 1 e261.2.1 (w64 (Int.tmod (e261.2.2.2 l0 9) e261.2.2.1)) e261.2.2.2 r280 hr280) (as := [(0, e261.2.2.2 l0 7), (0, w32 (l4 - l2)), (0, 1), (0, e261.2.1), (1, w64 (Int.tmod (e261.2.2.2 l0 9) e261.2.2.1))]) rfl rfl (Nat.le_of_ble_eq_true rfl) z00 ?_
    refine z_aload_n X dX10_goBelow_283 0 rfl ?_
    refine z_aload_n X dX10_goBelow_284 0 rfl ?_
    refine y_get X fl_RX10_78 dX10_goBelow_285 g18 ?_
    refine z_iload_n X dX10_goBelow_288 2 rfl ?_
    refine z_iload_n X dX10_goBelow_289 1 rfl ?_
    refine z_isub X dX10_goBelow_290 ?_
    refine z_iconst X dX10_goBelow_291 kc_1 ?_
    refine z_iload X dX10_goBelow_292 4 rfl ?_
    refine z_aload_n X dX10_goBelow_294 0 rfl ?_
    refine y_get X fl_RX10_55 dX10_goBelow_295 g18 ?_
    refine z_lload X dX10_goBelow_298 6 rfl ?_
    refine z_ldiv X dX10_goBelow_300 g19 ?_
    obtain ⟨r301, hr301, hf⟩ := obE hf
    refine y_V0 X cv_RX10_120 dX10_goBelow_301 g18 (c_WF_push d (Nat.zero_le _) l0 (r280 l0 7) (w32 (l3 - l2)) 1 e261.1 (w64 (Int.tdiv (r280 l0 9) e261.2.2.1)) r280 r301 hr301) (as := [(0, r280 l0 7), (0, w32 (l3 - l2)), (0, 1), (0, e261.1), (1, w64 (Int.tdiv (r280 l0 9) e261.2.2.1))]) rfl rfl (Nat.le_of_ble_eq_true rfl) z00 ?_
    cases hf
    exact z_vret X hK dX10_goBelow_304
  have hx131_1 : ∀ e343 : Hp, (.inr e343 : (Int × Int × Int × Hp) ⊕ (Hp)) = q131 → ZV g x 14 e343 343 [] [] := by
    intro e343 hq
    subst hq
    dsimp only at hf
    cases hf
    exact z_vret X hK dX10_goBelow_343
  exact z_weak [1, 2, 3, 4, 5, 6, 0] rfl (z_loop (Z := (fun q : Int × Hp => ZV g x 14 q.2 131 [(0, (2, l0)), (2, (0, l2)), (3, (0, l3)), (4, (0, l4)), (5, (0, l5)), (6, (0, l6)), (7, (0, q.1))] [])) (E := fun q => q = q131) (fun q y hb hk => z_WF_goBelow_L131 X hd l0 l2 l3 l4 l5 l6 (fun q => q = q131) hx131_0 hx131_1 q.1 q.2 y hb hk) LN (s0, h) q131 hq131 rfl)
set_option maxHeartbeats 4000000 in
set_option maxRecDepth 100000 in
theorem z_WF_goBelow_j111 {g : GP} {x : CX} {d : Nat} (X : zX g x RX10 cX10_goBelow 14 (d + 1)) (hd : 2 ≤ d) (l0 l2 l3 l4 l5 s0 : Int) (h : Hp) (y : Hp) (hf : WF_goBelow_j111 l0 l2 l3 l4 l5 s0 h = some y) (hK : zE g x none 0 0 157 y none) : ZV g x 14 h 111 [(0, (2, l0)), (2, (0, l2)), (3, (0, l3)), (4, (0, l4)), (5, (0, l5))] [(0, s0)] := by
  unfold WF_goBelow_j111 at hf
  refine z_istore X dX10_goBelow_111 (by decide) (ls' := [(6, (0, s0)), (0, (2, l0)), (2, (0, l2)), (3, (0, l3)), (4, (0, l4)), (5, (0, l5))]) rfl ?_
  refine z_iload X dX10_goBelow_113 5 rfl ?_
  refine z_if_eq X dX10_goBelow_115 rfl (fun hc115 => ?_) (fun hc115 => ?_)
  · have hf := ift hc115 hf
    refine z_aload_n X dX10_goBelow_125 1 rfl ?_
    obtain ⟨g9, hf⟩ := gif hf
    refine y_get X fl_RX10_46 dX10_goBelow_126 g9 ?_
    exact z_weak [1, 2, 3, 4, 5, 0] rfl (z_WF_goBelow_j129 X hd l0 l2 l3 l4 l5 s0 (h l0 10) h _ hf hK)
  · have hf := iff' hc115 hf
    refine z_aload_n X dX10_goBelow_118 1 rfl ?_
    obtain ⟨g20, hf⟩ := gif hf
    refine y_get X fl_RX10_103 dX10_goBelow_119 g20 ?_
    refine z_goto X dX10_goBelow_122 rfl ?_
    exact z_weak [1, 2, 3, 4, 5, 0] rfl (z_WF_goBelow_j129 X hd l0 l2 l3 l4 l5 s0 (h l0 13) h _ hf hK)
set_option maxHeartbeats 4000000 in
set_option maxRecDepth 100000 in
theorem c_WF_goBelow {l : Launch} {g : GP} (d : Nat) (hd : 3 ≤ d) (l0 l1 : Int) (h : Hp) (y : Hp) (hf : WF_goBelow l0 l1 h = some y) : zM l yX10_goBelow cX10_goBelow 14 none d 0 0 g 157 h [(2, l0), (0, l1)] 157 y none := by
  obtain ⟨d, rfl⟩ : ∃ k, d = k + 1 := ⟨d - 1, by omega⟩
  replace hd : 2 ≤ d := Nat.le_of_succ_le_succ hd
  refine z_start (by decide) (Nat.le_of_ble_eq_true rfl) (fun x X hK _ _ _ hl => ?_)
  show ZV g x 14 h 0 [(0, (2, l0)), (1, (0, l1))] []
  unfold WF_goBelow at hf
  refine z_aload_n X dX10_goBelow_0 0 rfl ?_
  obtain ⟨g1, hf⟩ := gif hf
  refine y_get X fl_RX10_32 dX10_goBelow_1 g1 ?_
  obtain ⟨g2, hf⟩ := gif hf
  refine y_get X fl_RX10_72 dX10_goBelow_4 g2 ?_
  refine z_aload_n X dX10_goBelow_7 0 rfl ?_
  refine y_get X fl_RX10_33 dX10_goBelow_8 g1 ?_
  obtain ⟨g3, hf⟩ := gif hf
  refine y_get X fl_RX10_75 dX10_goBelow_11 g3 ?_
  refine z_aload_n X dX10_goBelow_14 0 rfl ?_
  refine y_get X fl_RX10_78 dX10_goBelow_15 g1 ?_
  obtain ⟨g4, hf⟩ := gif hf
  refine y_iald X dX10_goBelow_18 g4 ?_
  obtain ⟨g5, hf⟩ := gif hf
  refine y_iald X dX10_goBelow_19 g5 ?_
  refine z_istore_n X dX10_goBelow_20 (by decide) (ls' := [(2, (0, h (h (h l0 1) 6) (h (h (h l0 2) 4) (h l0 7)))), (0, (2, l0)), (1, (0, l1))]) rfl ?_
  refine z_aload_n X dX10_goBelow_21 1 rfl ?_
  refine y_get X fl_RX10_32 dX10_goBelow_22 g1 ?_
  refine y_get X fl_RX10_138 dX10_goBelow_25 g2 ?_
  refine z_iload_n X dX10_goBelow_28 2 rfl ?_
  obtain ⟨g6, hf⟩ := gif hf
  refine y_iald X dX10_goBelow_29 g6 ?_
  refine z_istore_n X dX10_goBelow_30 (by decide) (ls' := [(3, (0, h (h (h l0 1) 11) l1)), (2, (0, h (h (h l0 1) 6) (h (h (h l0 2) 4) (h l0 7)))), (0, (2, l0)), (1, (0, l1))]) rfl ?_
  refine z_aload_n X dX10_goBelow_31 2 rfl ?_
  refine y_get X fl_RX10_32 dX10_goBelow_32 g1 ?_
  refine y_get X fl_RX10_141 dX10_goBelow_35 g2 ?_
  refine z_iload_n X dX10_goBelow_38 3 rfl ?_
  obtain ⟨g7, hf⟩ := gif hf
  refine y_iald X dX10_goBelow_39 g7 ?_
  refine z_istore X dX10_goBelow_40 (by decide) (ls' := [(4, (0, h (h (h l0 1) 12) l1)), (3, (0, h (h (h l0 1) 11) l1)), (2, (0, h (h (h l0 1) 6) (h (h (h l0 2) 4) (h l0 7)))), (0, (2, l0)), (1, (0, l1))]) rfl ?_
  refine z_iload X dX10_goBelow_42 0 rfl ?_
  refine z_iconst X dX10_goBelow_44 kc_m1 ?_
  refine z_icmp_ne X dX10_goBelow_45 rfl (fun hc45 => ?_) (fun hc45 => ?_)
  · have hf := iff' hc45 hf
    refine z_aload_n X dX10_goBelow_84 3 rfl ?_
    refine y_get X fl_RX10_32 dX10_goBelow_85 g1 ?_
    refine y_get X fl_RX10_134 dX10_goBelow_88 g2 ?_
    refine z_iload_n X dX10_goBelow_91 1 rfl ?_
    obtain ⟨g8, hf⟩ := gif hf
    refine y_zald X dX10_goBelow_92 g8 ?_
    refine z_istore X dX10_goBelow_93 (by decide) (ls' := [(5, (0, h (h (h l0 1) 15) (h (h (h l0 1) 11) l1))), (4, (0, h (h (h l0 1) 12) l1)), (3, (0, h (h (h l0 1) 11) l1)), (2, (0, h (h (h l0 1) 6) (h (h (h l0 2) 4) (h l0 7)))), (0, (2, l0)), (1, (0, l1))]) rfl ?_
    refine z_iload X dX10_goBelow_95 0 rfl ?_
    refine z_if_eq X dX10_goBelow_97 rfl (fun hc97 => ?_) (fun hc97 => ?_)
    · rw [if_pos hc97] at hf
      refine z_aload_n X dX10_goBelow_107 4 rfl ?_
      refine y_get X fl_RX10_100 dX10_goBelow_108 g1 ?_
      exact z_weak [4, 3, 2, 1, 0] rfl (z_WF_goBelow_j111 X hd l0 (h (h (h l0 1) 6) (h (h (h l0 2) 4) (h l0 7))) (h (h (h l0 1) 11) l1) (h (h (h l0 1) 12) l1) (h (h (h l0 1) 15) (h (h (h l0 1) 11) l1)) (h l0 12) h _ hf hK)
    · rw [if_neg hc97] at hf
      refine z_aload_n X dX10_goBelow_100 4 rfl ?_
      refine y_get X fl_RX10_52 dX10_goBelow_101 g1 ?_
      refine z_goto X dX10_goBelow_104 rfl ?_
      exact z_weak [4, 3, 2, 1, 0] rfl (z_WF_goBelow_j111 X hd l0 (h (h (h l0 1) 6) (h (h (h l0 2) 4) (h l0 7))) (h (h (h l0 1) 11) l1) (h (h (h l0 1) 12) l1) (h (h (h l0 1) 15) (h (h (h l0 1) 11) l1)) (h l0 11) h _ hf hK)
  · have hf := ift hc45 hf
    refine z_aload_n X dX10_goBelow_48 3 rfl ?_
    refine z_aload_n X dX10_goBelow_49 3 rfl ?_
    refine y_get X fl_RX10_78 dX10_goBelow_50 g1 ?_
    refine z_iload_n X dX10_goBelow_53 1 rfl ?_
    refine z_iload_n X dX10_goBelow_54 2 rfl ?_
    refine z_isub X dX10_goBelow_55 ?_
    refine z_iconst X dX10_goBelow_56 kc_1 ?_
    refine z_aload_n X dX10_goBelow_57 3 rfl ?_
    refine y_get X fl_RX10_46 dX10_goBelow_58 g1 ?_
    refine z_aload_n X dX10_goBelow_61 3 rfl ?_
    refine y_get X fl_RX10_52 dX10_goBelow_62 g1 ?_
    refine z_aload_n X dX10_goBelow_65 3 rfl ?_
    refine y_get X fl_RX10_100 dX10_goBelow_66 g1 ?_
    refine z_aload_n X dX10_goBelow_69 3 rfl ?_
    refine y_get X fl_RX10_103 dX10_goBelow_70 g1 ?_
    obtain ⟨r73, hr73, hf⟩ := obE hf
    refine y_S1 X cs_RX10_116 dX10_goBelow_73 (c_WF_cover d (Nat.zero_le _) (h l0 10) (h l0 11) (h l0 12) (h l0 13) h r73 hr73) (as := [(0, h l0 10), (0, h l0 11), (0, h l0 12), (0, h l0 13)]) rfl rfl (Nat.le_of_ble_eq_true rfl) z00 ?_
    refine z_aload_n X dX10_goBelow_76 3 rfl ?_
    refine y_get X fl_RX10_55 dX10_goBelow_77 g1 ?_
    obtain ⟨r80, hr80, hf⟩ := obE hf
    refine y_V0 X cv_RX10_120 dX10_goBelow_80 g1 (c_WF_push d (Nat.zero_le _) l0 (h l0 7) (w32 ((h (h (h l0 1) 11) l1) - (h (h (h l0 1) 6) (h (h (h l0 2) 4) (h l0 7))))) 1 r73 (h l0 9) h r80 hr80) (as := [(0, h l0 7), (0, w32 ((h (h (h l0 1) 11) l1) - (h (h (h l0 1) 6) (h (h (h l0 2) 4) (h l0 7))))), (0, 1), (0, r73), (1, h l0 9)]) rfl rfl (Nat.le_of_ble_eq_true rfl) z00 ?_
    cases hf
    exact z_vret X hK dX10_goBelow_83
set_option maxHeartbeats 4000000 in
set_option maxRecDepth 100000 in
theorem c_WF_pop {l : Launch} {g : GP} (d : Nat) (hd : 0 ≤ d) (l0 : Int) (h : Hp) (y : Int × Hp) (hf : WF_pop l0 h = some y) : zM l yX10_pop cX10_pop 3 (some .int) d 0 0 g 157 h [(2, l0)] 157 y.2 (some (0, y.1)) := by
  refine z_start (by decide) (Nat.le_of_ble_eq_true rfl) (fun x X hK _ _ _ hl => ?_)
  show ZV g x 3 h 0 [(0, (2, l0))] []
  unfold WF_pop at hf
  refine z_aload_n X dX10_pop_0 0 rfl ?_
  refine z_dup X ne2 dX10_pop_1 ?_
  obtain ⟨g1, hf⟩ := gif hf
  refine y_get X fl_RX10_42 dX10_pop_2 g1 ?_
  refine z_iconst X dX10_pop_5 kc_1 ?_
  refine z_isub X dX10_pop_6 ?_
  refine y_put X fl_RX10_42 dX10_pop_7 g1 rfl (by decide) ?_
  let h_1 : Hp := hput h l0 3 (w32 ((h l0 3) - 1))
  refine z_aload_n X dX10_pop_10 0 rfl ?_
  refine y_get X fl_RX10_9 dX10_pop_11 g1 ?_
  refine z_aload_n X dX10_pop_14 0 rfl ?_
  refine y_get X fl_RX10_42 dX10_pop_15 g1 ?_
  obtain ⟨g2, hf⟩ := gif hf
  refine y_iald X dX10_pop_18 g2 ?_
  refine z_istore_n X dX10_pop_19 (by decide) (ls' := [(1, (0, h_1 (h_1 l0 4) (h_1 l0 3))), (0, (2, l0))]) rfl ?_
  refine z_aload_n X dX10_pop_20 1 rfl ?_
  refine y_get X fl_RX10_15 dX10_pop_21 g1 ?_
  refine z_aload_n X dX10_pop_24 1 rfl ?_
  refine y_get X fl_RX10_42 dX10_pop_25 g1 ?_
  obtain ⟨g3, hf⟩ := gif hf
  refine y_iald X dX10_pop_28 g3 ?_
  refine z_istore_n X dX10_pop_29 (by decide) (ls' := [(2, (0, h_1 (h_1 l0 5) (h_1 l0 3))), (1, (0, h_1 (h_1 l0 4) (h_1 l0 3))), (0, (2, l0))]) rfl ?_
  refine z_aload_n X dX10_pop_30 2 rfl ?_
  refine z_aload_n X dX10_pop_31 2 rfl ?_
  refine y_get X fl_RX10_18 dX10_pop_32 g1 ?_
  refine z_aload_n X dX10_pop_35 2 rfl ?_
  refine y_get X fl_RX10_42 dX10_pop_36 g1 ?_
  obtain ⟨g4, hf⟩ := gif hf
  refine y_lald X dX10_pop_39 g4 ?_
  refine y_put X fl_RX10_55 dX10_pop_40 g1 rfl (by decide) ?_
  let h_2 : Hp := hput h_1 l0 9 (h_1 (h_1 l0 6) (h_1 l0 3))
  refine z_aload_n X dX10_pop_43 2 rfl ?_
  refine z_iload_n X dX10_pop_44 1 rfl ?_
  refine z_iconst X dX10_pop_45 kc_1 ?_
  refine z_ishr X dX10_pop_46 ?_
  refine z_bipush X dX10_pop_47 kb_12 kc_12 ?_
  refine z_idiv X dX10_pop_49 (by decide) ?_
  refine y_put X fl_RX10_78 dX10_pop_50 g1 rfl (by decide) ?_
  let h_3 : Hp := hput h_2 l0 7 (w32 (Int.tdiv (i_shr (h_1 (h_1 l0 4) (h_1 l0 3)) 1) 12))
  refine z_aload_n X dX10_pop_53 2 rfl ?_
  refine z_iload_n X dX10_pop_54 1 rfl ?_
  refine z_iconst X dX10_pop_55 kc_1 ?_
  refine z_ishr X dX10_pop_56 ?_
  refine z_bipush X dX10_pop_57 kb_12 kc_12 ?_
  refine z_irem X dX10_pop_59 (by decide) ?_
  refine y_put X fl_RX10_81 dX10_pop_60 g1 rfl (by decide) ?_
  let h_4 : Hp := hput h_3 l0 8 (w32 (Int.tmod (i_shr (h_1 (h_1 l0 4) (h_1 l0 3)) 1) 12))
  refine z_aload_n X dX10_pop_63 2 rfl ?_
  refine z_iload_n X dX10_pop_64 0 rfl ?_
  refine z_bipush X dX10_pop_65 kb_12 kc_12 ?_
  refine z_ishr X dX10_pop_67 ?_
  refine z_bipush X dX10_pop_68 kb_15 kc_15 ?_
  refine z_iand X dX10_pop_70 ?_
  refine y_put X fl_RX10_46 dX10_pop_71 g1 rfl (by decide) ?_
  let h_5 : Hp := hput h_4 l0 10 (i_and (i_shr (h_1 (h_1 l0 5) (h_1 l0 3)) 12) 15)
  refine z_aload_n X dX10_pop_74 2 rfl ?_
  refine z_iload_n X dX10_pop_75 0 rfl ?_
  refine z_bipush X dX10_pop_76 kb_8 kc_8 ?_
  refine z_ishr X dX10_pop_78 ?_
  refine z_bipush X dX10_pop_79 kb_15 kc_15 ?_
  refine z_iand X dX10_pop_81 ?_
  refine y_put X fl_RX10_52 dX10_pop_82 g1 rfl (by decide) ?_
  let h_6 : Hp := hput h_5 l0 11 (i_and (i_shr (h_1 (h_1 l0 5) (h_1 l0 3)) 8) 15)
  refine z_aload_n X dX10_pop_85 2 rfl ?_
  refine z_iload_n X dX10_pop_86 0 rfl ?_
  refine z_iconst X dX10_pop_87 kc_4 ?_
  refine z_ishr X dX10_pop_88 ?_
  refine z_bipush X dX10_pop_89 kb_15 kc_15 ?_
  refine z_iand X dX10_pop_91 ?_
  refine y_put X fl_RX10_100 dX10_pop_92 g1 rfl (by decide) ?_
  let h_7 : Hp := hput h_6 l0 12 (i_and (i_shr (h_1 (h_1 l0 5) (h_1 l0 3)) 4) 15)
  refine z_aload_n X dX10_pop_95 2 rfl ?_
  refine z_iload_n X dX10_pop_96 0 rfl ?_
  refine z_bipush X dX10_pop_97 kb_15 kc_15 ?_
  refine z_iand X dX10_pop_99 ?_
  refine y_put X fl_RX10_103 dX10_pop_100 g1 rfl (by decide) ?_
  let h_8 : Hp := hput h_7 l0 13 (i_and (h_1 (h_1 l0 5) (h_1 l0 3)) 15)
  refine z_iload_n X dX10_pop_103 1 rfl ?_
  refine z_iconst X dX10_pop_104 kc_1 ?_
  refine z_iand X dX10_pop_105 ?_
  cases hf
  exact z_iret X hK dX10_pop_106
set_option maxHeartbeats 4000000 in
set_option maxRecDepth 100000 in
theorem z_WF_putHost_j127 {g : GP} {x : CX} {d : Nat} (X : zX g x RX10 cX10_putHost 8 (d + 1)) (hd : 1 ≤ d) (l0 l1 l2 l3 l4 : Int) (h : Hp) (y : (Int × Hp) ⊕ ((Int × Hp) ⊕ (Hp))) (hf : WF_putHost_j127 l0 l1 l2 l3 l4 h = some y) (E : (Int × Hp) ⊕ (Hp) → Prop) (hx0 : ∀ e : Int × Hp, E (.inl e) → ZV g x 8 e.2 71 [(0, (2, l0)), (2, (0, l2)), (3, (0, l3)), (4, (0, e.1))] []) (hx1 : ∀ e : Hp, E (.inr e) → ZV g x 8 e 133 [] []) (hk : z_sum (fun q : Int × Hp => ZV g x 8 q.2 3 [(0, (2, l0)), (1, (0, l1)), (2, (0, l2)), (3, (0, l3)), (4, (0, q.1))] []) E y) : ZV g x 8 h 127 [(0, (2, l0)), (1, (0, l1)), (2, (0, l2)), (3, (0, l3)), (4, (0, l4))] [] := by
  unfold WF_putHost_j127 at hf
  refine z_iinc X dX10_putHost_127 4 rfl (by decide) (ls' := [(4, (0, w32 (l4 + 1))), (0, (2, l0)), (1, (0, l1)), (2, (0, l2)), (3, (0, l3))]) rfl ?_
  refine z_goto X dX10_putHost_130 rfl ?_
  cases hf
  exact z_weak [1, 2, 3, 4, 0] rfl hk
set_option maxHeartbeats 4000000 in
set_option maxRecDepth 100000 in
theorem z_WF_putHost_L3 {g : GP} {x : CX} {d : Nat} (X : zX g x RX10 cX10_putHost 8 (d + 1)) (hd : 1 ≤ d) (l0 l1 l2 l3 : Int)  (E : (Int × Hp) ⊕ (Hp) → Prop) (hx0 : ∀ e : Int × Hp, E (.inl e) → ZV g x 8 e.2 71 [(0, (2, l0)), (2, (0, l2)), (3, (0, l3)), (4, (0, e.1))] []) (hx1 : ∀ e : Hp, E (.inr e) → ZV g x 8 e 133 [] []) (l4 : Int) (h : Hp) (y : (Int × Hp) ⊕ ((Int × Hp) ⊕ (Hp))) (hf : WF_putHost_L3 l0 l1 l2 l3 l4 h = some y) (hk : z_sum (fun q : Int × Hp => ZV g x 8 q.2 3 [(0, (2, l0)), (1, (0, l1)), (2, (0, l2)), (3, (0, l3)), (4, (0, q.1))] []) E y) : ZV g x 8 h 3 [(0, (2, l0)), (1, (0, l1)), (2, (0, l2)), (3, (0, l3)), (4, (0, l4))] [] := by
  unfold WF_putHost_L3 at hf
  refine z_iload X dX10_putHost_3 4 rfl ?_
  refine z_aload_n X dX10_putHost_5 0 rfl ?_
  obtain ⟨g1, hf⟩ := gif hf
  refine y_get X fl_RX10_32 dX10_putHost_6 g1 ?_
  obtain ⟨g2, hf⟩ := gif hf
  refine y_get X fl_RX10_106 dX10_putHost_9 g2 ?_
  refine z_icmp_ge X dX10_putHost_12 rfl (fun hc12 => ?_) (fun hc12 => ?_)
  · have hf := ift hc12 hf
    cases hf
    exact z_weak [] rfl (hx1 _ hk)
  · have hf := iff' hc12 hf
    refine z_iload_n X dX10_putHost_15 1 rfl ?_
    refine z_iload X dX10_putHost_16 4 rfl ?_
    refine z_ishr X dX10_putHost_18 ?_
    refine z_iconst X dX10_putHost_19 kc_1 ?_
    refine z_iand X dX10_putHost_20 ?_
    refine z_iconst X dX10_putHost_21 kc_1 ?_
    refine z_icmp_ne X dX10_putHost_22 rfl (fun hc22 => ?_) (fun hc22 => ?_)
    · have hf := iff' hc22 hf
      exact (z_WF_putHost_j127 X hd l0 l1 l2 l3 l4 h _ hf E hx0 hx1 hk)
    · have hf := ift hc22 hf
      refine z_aload_n X dX10_putHost_25 0 rfl ?_
      refine y_get X fl_RX10_22 dX10_putHost_26 g1 ?_
      refine z_aload_n X dX10_putHost_29 0 rfl ?_
      refine y_get X fl_RX10_32 dX10_putHost_30 g1 ?_
      refine y_get X fl_RX10_72 dX10_putHost_33 g2 ?_
      refine z_iload X dX10_putHost_36 4 rfl ?_
      obtain ⟨g3, hf⟩ := gif hf
      refine y_iald X dX10_putHost_38 g3 ?_
      refine z_iconst X dX10_putHost_39 kc_1 ?_
      refine z_aload_n X dX10_putHost_40 0 rfl ?_
      refine y_get X fl_RX10_46 dX10_putHost_41 g1 ?_
      refine z_aload_n X dX10_putHost_44 0 rfl ?_
      refine y_get X fl_RX10_52 dX10_putHost_45 g1 ?_
      refine z_aload_n X dX10_putHost_48 0 rfl ?_
      refine y_get X fl_RX10_52 dX10_putHost_49 g1 ?_
      refine z_aload_n X dX10_putHost_52 0 rfl ?_
      refine y_get X fl_RX10_52 dX10_putHost_53 g1 ?_
      obtain ⟨g4, hf⟩ := gif hf
      obtain ⟨r56, hr56, hf⟩ := obE hf
      refine y_V1 X cv_RX10_108 dX10_putHost_56 g4 (c_Ch_value d (Nat.le_trans (by decide) hd) (h l0 0) (h (h (h l0 1) 6) l4) 1 (h l0 10) (h l0 11) (h l0 11) (h l0 11) h r56 hr56) (as := [(0, h (h (h l0 1) 6) l4), (0, 1), (0, h l0 10), (0, h l0 11), (0, h l0 11), (0, h l0 11)]) rfl rfl (Nat.le_of_ble_eq_true rfl) z00 ?_
      refine z_lstore X dX10_putHost_59 (by decide) (ls' := [(5, (1, r56)), (0, (2, l0)), (1, (0, l1)), (2, (0, l2)), (3, (0, l3)), (4, (0, l4))]) rfl ?_
      refine z_aload_n X dX10_putHost_61 1 rfl ?_
      refine y_get X fl_RX10_55 dX10_putHost_62 g1 ?_
      refine z_lload X dX10_putHost_65 0 rfl ?_
      refine z_l_ge X dX10_putHost_67 dX10_putHost_68 rfl (fun hc67 => ?_) (fun hc67 => ?_)
      · have hf := ift hc67 hf
        refine z_aload_n X dX10_putHost_116 1 rfl ?_
        refine z_dup X ne2 dX10_putHost_117 ?_
        refine y_get X fl_RX10_55 dX10_putHost_118 g1 ?_
        refine z_lload X dX10_putHost_121 0 rfl ?_
        refine z_lsub X dX10_putHost_123 ?_
        refine y_put X fl_RX10_55 dX10_putHost_124 g1 rfl (by decide) ?_
        let h_1 : Hp := hput h l0 9 (w64 ((h l0 9) - r56))
        exact z_weak [1, 2, 3, 4, 5] rfl (z_WF_putHost_j127 X hd l0 l1 l2 l3 l4 h_1 _ hf E hx0 hx1 hk)
      · have hf := iff' hc67 hf
        cases hf
        exact z_weak [1, 3, 4, 5] rfl (hx0 _ hk)
set_option maxHeartbeats 4000000 in
set_option maxRecDepth 100000 in
theorem c_WF_putHost {l : Launch} {g : GP} (d : Nat) (hd : 2 ≤ d) (l0 l1 l2 l3 : Int) (h : Hp) (y : Hp) (hf : WF_putHost l0 l1 l2 l3 h = some y) : zM l yX10_putHost cX10_putHost 8 none d 0 0 g 157 h [(2, l0), (0, l1), (0, l2), (0, l3)] 157 y none := by
  obtain ⟨d, rfl⟩ : ∃ k, d = k + 1 := ⟨d - 1, by omega⟩
  replace hd : 1 ≤ d := Nat.le_of_succ_le_succ hd
  refine z_start (by decide) (Nat.le_of_ble_eq_true rfl) (fun x X hK _ _ _ hl => ?_)
  show ZV g x 8 h 0 [(0, (2, l0)), (1, (0, l1)), (2, (0, l2)), (3, (0, l3))] []
  unfold WF_putHost at hf
  refine z_iconst X dX10_putHost_0 kc_0 ?_
  refine z_istore X dX10_putHost_1 (by decide) (ls' := [(4, (0, 0)), (0, (2, l0)), (1, (0, l1)), (2, (0, l2)), (3, (0, l3))]) rfl ?_
  obtain ⟨q3, hq3, hf⟩ := obE hf
  have hx3_0 : ∀ e71 : Int × Hp, (.inl e71 : (Int × Hp) ⊕ (Hp)) = q3 → ZV g x 8 e71.2 71 [(0, (2, l0)), (2, (0, l2)), (3, (0, l3)), (4, (0, e71.1))] [] := by
    intro e71 hq
    subst hq
    dsimp only at hf
    refine z_aload_n X dX10_putHost_71 0 rfl ?_
    obtain ⟨g5, hf⟩ := gif hf
    refine y_get X fl_RX10_33 dX10_putHost_72 g5 ?_
    refine z_iload X dX10_putHost_75 3 rfl ?_
    refine z_iload_n X dX10_putHost_77 1 rfl ?_
    refine z_iload_n X dX10_putHost_78 2 rfl ?_
    obtain ⟨g6, hf⟩ := gif hf
    obtain ⟨r79, hr79, hf⟩ := obE hf
    refine y_V1 X cv_RX10_112 dX10_putHost_79 g6 (c_Wy_addStep d (Nat.zero_le _) (e71.2 l0 2) e71.1 l2 l3 e71.2 r79 hr79) (as := [(0, e71.1), (0, l2), (0, l3)]) rfl rfl (Nat.le_of_ble_eq_true rfl) z00 ?_
    refine z_istore X dX10_putHost_82 (by decide) (ls' := [(7, (0, r79.1)), (0, (2, l0)), (2, (0, l2)), (3, (0, l3)), (4, (0, e71.1))]) rfl ?_
    refine z_aload_n X dX10_putHost_84 1 rfl ?_
    refine z_iload X dX10_putHost_85 0 rfl ?_
    refine z_iconst X dX10_putHost_87 kc_0 ?_
    refine z_iconst X dX10_putHost_88 kc_1 ?_
    refine z_aload_n X dX10_putHost_89 1 rfl ?_
    refine y_get X fl_RX10_46 dX10_putHost_90 g5 ?_
    refine z_aload_n X dX10_putHost_93 1 rfl ?_
    refine y_get X fl_RX10_52 dX10_putHost_94 g5 ?_
    refine z_aload_n X dX10_putHost_97 1 rfl ?_
    refine y_get X fl_RX10_52 dX10_putHost_98 g5 ?_
    refine z_aload_n X dX10_putHost_101 1 rfl ?_
    refine y_get X fl_RX10_52 dX10_putHost_102 g5 ?_
    obtain ⟨r105, hr105, hf⟩ := obE hf
    refine y_S1 X cs_RX10_116 dX10_putHost_105 (c_WF_cover d (Nat.zero_le _) (r79.2 l0 10) (r79.2 l0 11) (r79.2 l0 11) (r79.2 l0 11) r79.2 r105 hr105) (as := [(0, r79.2 l0 10), (0, r79.2 l0 11), (0, r79.2 l0 11), (0, r79.2 l0 11)]) rfl rfl (Nat.le_of_ble_eq_true rfl) z00 ?_
    refine z_aload_n X dX10_putHost_108 1 rfl ?_
    refine y_get X fl_RX10_55 dX10_putHost_109 g5 ?_
    obtain ⟨r112, hr112, hf⟩ := obE hf
    refine y_V0 X cv_RX10_120 dX10_putHost_112 g5 (c_WF_push d (Nat.zero_le _) l0 r79.1 0 1 r105 (r79.2 l0 9) r79.2 r112 hr112) (as := [(0, r79.1), (0, 0), (0, 1), (0, r105), (1, r79.2 l0 9)]) rfl rfl (Nat.le_of_ble_eq_true rfl) z00 ?_
    cases hf
    exact z_vret X hK dX10_putHost_115
  have hx3_1 : ∀ e133 : Hp, (.inr e133 : (Int × Hp) ⊕ (Hp)) = q3 → ZV g x 8 e133 133 [] [] := by
    intro e133 hq
    subst hq
    dsimp only at hf
    cases hf
    exact z_vret X hK dX10_putHost_133
  exact z_weak [1, 2, 3, 4, 0] rfl (z_loop (Z := (fun q : Int × Hp => ZV g x 8 q.2 3 [(0, (2, l0)), (1, (0, l1)), (2, (0, l2)), (3, (0, l3)), (4, (0, q.1))] [])) (E := fun q => q = q3) (fun q y hb hk => z_WF_putHost_L3 X hd l0 l1 l2 l3 (fun q => q = q3) hx3_0 hx3_1 q.1 q.2 y hb hk) LN (0, h) q3 hq3 rfl)
set_option maxHeartbeats 4000000 in
set_option maxRecDepth 100000 in
theorem z_WF_find_j207 {g : GP} {x : CX} {d : Nat} (X : zX g x RX10 cX10_find 8 (d + 1)) (hd : 3 ≤ d) (l0 l5 : Int) (h : Hp) (y : (Int × Hp) ⊕ (Hp)) (hf : WF_find_j207 l0 l5 h = some y) (E : Hp → Prop) (hx0 : ∀ e : Hp, E (e) → ZV g x 8 e 213 [] []) (hk : z_sum (fun q : Int × Hp => ZV g x 8 q.2 65 [(0, (2, l0)), (5, (0, q.1))] []) E y) : ZV g x 8 h 207 [(0, (2, l0)), (5, (0, l5))] [] := by
  unfold WF_find_j207 at hf
  refine z_iinc X dX10_find_207 1 rfl (by decide) (ls' := [(5, (0, w32 (l5 + 1))), (0, (2, l0))]) rfl ?_
  refine z_goto X dX10_find_210 rfl ?_
  cases hf
  exact z_weak [1, 0] rfl hk
set_option maxHeartbeats 4000000 in
set_option maxRecDepth 100000 in
theorem z_WF_find_j188 {g : GP} {x : CX} {d : Nat} (X : zX g x RX10 cX10_find 8 (d + 1)) (hd : 3 ≤ d) (l0 l5 l7 : Int) (h : Hp) (y : (Int × Hp) ⊕ (Hp)) (hf : WF_find_j188 l0 l5 l7 h = some y) (E : Hp → Prop) (hx0 : ∀ e : Hp, E (e) → ZV g x 8 e 213 [] []) (hk : z_sum (fun q : Int × Hp => ZV g x 8 q.2 65 [(0, (2, l0)), (5, (0, q.1))] []) E y) : ZV g x 8 h 188 [(0, (2, l0)), (5, (0, l5)), (7, (0, l7))] [] := by
  unfold WF_find_j188 at hf
  refine z_aload_n X dX10_find_188 0 rfl ?_
  obtain ⟨g11, hf⟩ := gif hf
  refine y_get X fl_RX10_32 dX10_find_189 g11 ?_
  obtain ⟨g12, hf⟩ := gif hf
  refine y_get X fl_RX10_84 dX10_find_192 g12 ?_
  refine z_iload X dX10_find_195 2 rfl ?_
  obtain ⟨g13, hf⟩ := gif hf
  refine y_iald X dX10_find_197 g13 ?_
  refine z_if_ne X dX10_find_198 rfl (fun hc198 => ?_) (fun hc198 => ?_)
  · have hf := iff' hc198 hf
    exact z_weak [0, 1] rfl (z_WF_find_j207 X hd l0 l5 h _ hf E hx0 hk)
  · have hf := ift hc198 hf
    refine z_aload_n X dX10_find_201 0 rfl ?_
    refine z_iload X dX10_find_202 2 rfl ?_
    obtain ⟨r204, hr204, hf⟩ := obE hf
    refine y_V0 X cv_RX10_97 dX10_find_204 g11 (c_WF_goBelow d (Nat.le_trans (by decide) hd) l0 l7 h r204 hr204) (as := [(0, l7)]) rfl rfl (Nat.le_of_ble_eq_true rfl) z00 ?_
    exact z_weak [0, 1] rfl (z_WF_find_j207 X hd l0 l5 r204 _ hf E hx0 hk)
set_option maxHeartbeats 4000000 in
set_option maxRecDepth 100000 in
theorem z_WF_find_L65 {g : GP} {x : CX} {d : Nat} (X : zX g x RX10 cX10_find 8 (d + 1)) (hd : 3 ≤ d) (l0 : Int)  (E : Hp → Prop) (hx0 : ∀ e : Hp, E (e) → ZV g x 8 e 213 [] []) (l5 : Int) (h : Hp) (y : (Int × Hp) ⊕ (Hp)) (hf : WF_find_L65 l0 l5 h = some y) (hk : z_sum (fun q : Int × Hp => ZV g x 8 q.2 65 [(0, (2, l0)), (5, (0, q.1))] []) E y) : ZV g x 8 h 65 [(0, (2, l0)), (5, (0, l5))] [] := by
  unfold WF_find_L65 at hf
  refine z_iload X dX10_find_65 1 rfl ?_
  refine z_sipush X dX10_find_67 ks_4096 kc_4096 ?_
  refine z_icmp_ge X dX10_find_70 rfl (fun hc70 => ?_) (fun hc70 => ?_)
  · have hf := ift hc70 hf
    cases hf
    exact z_weak [] rfl (hx0 _ hk)
  · have hf := iff' hc70 hf
    refine z_aload_n X dX10_find_73 0 rfl ?_
    obtain ⟨g5, hf⟩ := gif hf
    refine y_get X fl_RX10_42 dX10_find_74 g5 ?_
    refine z_if_le X dX10_find_77 rfl (fun hc77 => ?_) (fun hc77 => ?_)
    · have hf := ift hc77 hf
      cases hf
      exact z_weak [] rfl (hx0 _ hk)
    · have hf := iff' hc77 hf
      refine z_aload_n X dX10_find_80 0 rfl ?_
      obtain ⟨r81, hr81, hf⟩ := obE hf
      refine y_V1 X cv_RX10_69 dX10_find_81 g5 (c_WF_pop d (Nat.zero_le _) l0 h r81 hr81) (as := []) rfl rfl (Nat.le_of_ble_eq_true rfl) z00 ?_
      refine z_istore X dX10_find_84 (by decide) (ls' := [(6, (0, r81.1)), (0, (2, l0)), (5, (0, l5))]) rfl ?_
      refine z_aload_n X dX10_find_86 1 rfl ?_
      refine y_get X fl_RX10_32 dX10_find_87 g5 ?_
      obtain ⟨g6, hf⟩ := gif hf
      refine y_get X fl_RX10_72 dX10_find_90 g6 ?_
      refine z_aload_n X dX10_find_93 1 rfl ?_
      refine y_get X fl_RX10_33 dX10_find_94 g5 ?_
      obtain ⟨g7, hf⟩ := gif hf
      refine y_get X fl_RX10_75 dX10_find_97 g7 ?_
      refine z_aload_n X dX10_find_100 1 rfl ?_
      refine y_get X fl_RX10_78 dX10_find_101 g5 ?_
      obtain ⟨g8, hf⟩ := gif hf
      refine y_iald X dX10_find_104 g8 ?_
      obtain ⟨g9, hf⟩ := gif hf
      refine y_iald X dX10_find_105 g9 ?_
      refine z_aload_n X dX10_find_106 1 rfl ?_
      refine y_get X fl_RX10_81 dX10_find_107 g5 ?_
      refine z_iadd X dX10_find_110 ?_
      refine z_istore X dX10_find_111 (by decide) (ls' := [(7, (0, w32 ((r81.2 (r81.2 (r81.2 l0 1) 6) (r81.2 (r81.2 (r81.2 l0 2) 4) (r81.2 l0 7))) + (r81.2 l0 8)))), (6, (0, r81.1)), (0, (2, l0)), (5, (0, l5))]) rfl ?_
      refine z_aload_n X dX10_find_113 2 rfl ?_
      refine y_get X fl_RX10_32 dX10_find_114 g5 ?_
      refine y_get X fl_RX10_84 dX10_find_117 g6 ?_
      refine z_iload X dX10_find_120 0 rfl ?_
      obtain ⟨g10, hf⟩ := gif hf
      refine y_iald X dX10_find_122 g10 ?_
      refine z_iconst X dX10_find_123 kc_4 ?_
      refine z_icmp_ne X dX10_find_124 rfl (fun hc124 => ?_) (fun hc124 => ?_)
      · have hf := iff' hc124 hf
        refine z_aload_n X dX10_find_160 2 rfl ?_
        refine y_get X fl_RX10_32 dX10_find_161 g5 ?_
        refine y_get X fl_RX10_84 dX10_find_164 g6 ?_
        refine z_iload X dX10_find_167 0 rfl ?_
        refine y_iald X dX10_find_169 g10 ?_
        refine z_if_ne X dX10_find_170 rfl (fun hc170 => ?_) (fun hc170 => ?_)
        · have hf := iff' hc170 hf
          exact z_weak [2, 3, 0] rfl (z_WF_find_j188 X hd l0 l5 (w32 ((r81.2 (r81.2 (r81.2 l0 1) 6) (r81.2 (r81.2 (r81.2 l0 2) 4) (r81.2 l0 7))) + (r81.2 l0 8))) r81.2 _ hf E hx0 hk)
        · have hf := ift hc170 hf
          refine z_iload X dX10_find_173 1 rfl ?_
          refine z_iconst X dX10_find_175 kc_1 ?_
          refine z_icmp_ne X dX10_find_176 rfl (fun hc176 => ?_) (fun hc176 => ?_)
          · have hf := iff' hc176 hf
            exact z_weak [2, 3, 0] rfl (z_WF_find_j188 X hd l0 l5 (w32 ((r81.2 (r81.2 (r81.2 l0 1) 6) (r81.2 (r81.2 (r81.2 l0 2) 4) (r81.2 l0 7))) + (r81.2 l0 8))) r81.2 _ hf E hx0 hk)
          · have hf := ift hc176 hf
            refine z_aload_n X dX10_find_179 2 rfl ?_
            refine z_iload X dX10_find_180 0 rfl ?_
            obtain ⟨r182, hr182, hf⟩ := obE hf
            refine y_V0 X cv_RX10_93 dX10_find_182 g5 (c_WF_goAbove d (Nat.le_trans (by decide) hd) l0 (w32 ((r81.2 (r81.2 (r81.2 l0 1) 6) (r81.2 (r81.2 (r81.2 l0 2) 4) (r81.2 l0 7))) + (r81.2 l0 8))) r81.2 r182 hr182) (as := [(0, w32 ((r81.2 (r81.2 (r81.2 l0 1) 6) (r81.2 (r81.2 (r81.2 l0 2) 4) (r81.2 l0 7))) + (r81.2 l0 8)))]) rfl rfl (Nat.le_of_ble_eq_true rfl) z00 ?_
            refine z_goto X dX10_find_185 rfl ?_
            exact z_weak [2, 3] rfl (z_WF_find_j207 X hd l0 l5 r182 _ hf E hx0 hk)
      · have hf := ift hc124 hf
        refine z_aload_n X dX10_find_127 2 rfl ?_
        refine z_aload_n X dX10_find_128 2 rfl ?_
        refine y_get X fl_RX10_32 dX10_find_129 g5 ?_
        refine y_get X fl_RX10_87 dX10_find_132 g6 ?_
        refine z_aload_n X dX10_find_135 2 rfl ?_
        refine y_get X fl_RX10_32 dX10_find_136 g5 ?_
        refine y_get X fl_RX10_90 dX10_find_139 g6 ?_
        refine z_iload X dX10_find_142 0 rfl ?_
        obtain ⟨g14, hf⟩ := gif hf
        refine y_iald X dX10_find_144 g14 ?_
        obtain ⟨g15, hf⟩ := gif hf
        refine y_iald X dX10_find_145 g15 ?_
        refine z_aload_n X dX10_find_146 2 rfl ?_
        refine y_get X fl_RX10_78 dX10_find_147 g5 ?_
        refine z_aload_n X dX10_find_150 2 rfl ?_
        refine y_get X fl_RX10_81 dX10_find_151 g5 ?_
        obtain ⟨r154, hr154, hf⟩ := obE hf
        refine y_V0 X cv_RX10_65 dX10_find_154 g5 (c_WF_putHost d (Nat.le_trans (by decide) hd) l0 (r81.2 (r81.2 (r81.2 l0 1) 17) (r81.2 (r81.2 (r81.2 l0 1) 9) (w32 ((r81.2 (r81.2 (r81.2 l0 1) 6) (r81.2 (r81.2 (r81.2 l0 2) 4) (r81.2 l0 7))) + (r81.2 l0 8))))) (r81.2 l0 7) (r81.2 l0 8) r81.2 r154 hr154) (as := [(0, r81.2 (r81.2 (r81.2 l0 1) 17) (r81.2 (r81.2 (r81.2 l0 1) 9) (w32 ((r81.2 (r81.2 (r81.2 l0 1) 6) (r81.2 (r81.2 (r81.2 l0 2) 4) (r81.2 l0 7))) + (r81.2 l0 8))))), (0, r81.2 l0 7), (0, r81.2 l0 8)]) rfl rfl (Nat.le_of_ble_eq_true rfl) z00 ?_
        refine z_goto X dX10_find_157 rfl ?_
        exact z_weak [2, 3] rfl (z_WF_find_j207 X hd l0 l5 r154 _ hf E hx0 hk)
set_option maxHeartbeats 4000000 in
set_option maxRecDepth 100000 in
theorem c_WF_find {l : Launch} {g : GP} (d : Nat) (hd : 4 ≤ d) (l0 l1 l2 l4 : Int) (h : Hp) (y : Hp) (hf : WF_find l0 l1 l2 l4 h = some y) : zM l yX10_find cX10_find 8 none d 0 0 g 157 h [(2, l0), (2, l1), (1, l2), (2, l4)] 157 y none := by
  obtain ⟨d, rfl⟩ : ∃ k, d = k + 1 := ⟨d - 1, by omega⟩
  replace hd : 3 ≤ d := Nat.le_of_succ_le_succ hd
  refine z_start (by decide) (Nat.le_of_ble_eq_true rfl) (fun x X hK _ _ _ hl => ?_)
  show ZV g x 8 h 0 [(0, (2, l0)), (1, (2, l1)), (2, (1, l2)), (4, (2, l4))] []
  unfold WF_find at hf
  refine z_aload_n X dX10_find_0 0 rfl ?_
  refine z_aload_n X dX10_find_1 1 rfl ?_
  obtain ⟨g1, hf⟩ := gif hf
  refine y_put X fl_RX10_22 dX10_find_2 g1 rfl (by decide) ?_
  let h_1 : Hp := hput h l0 0 l1
  refine z_aload_n X dX10_find_5 0 rfl ?_
  refine z_aload_n X dX10_find_6 1 rfl ?_
  obtain ⟨g2, hf⟩ := gif hf
  refine y_get X fl_RX10_26 dX10_find_7 g2 ?_
  refine y_put X fl_RX10_32 dX10_find_10 g1 rfl (by decide) ?_
  let h_2 : Hp := hput h_1 l0 1 (h_1 l1 0)
  refine z_aload_n X dX10_find_13 0 rfl ?_
  refine z_aload X dX10_find_14 3 rfl ?_
  refine y_put X fl_RX10_33 dX10_find_16 g1 rfl (by decide) ?_
  let h_3 : Hp := hput h_2 l0 2 l4
  refine z_aload_n X dX10_find_19 0 rfl ?_
  refine y_get X fl_RX10_33 dX10_find_20 g1 ?_
  obtain ⟨g3, hf⟩ := gif hf
  obtain ⟨r23, hr23, hf⟩ := obE hf
  refine y_V0 X cv_RX10_37 dX10_find_23 g3 (c_Wy_clear d (Nat.le_trans (by decide) hd) (h_3 l0 2) h_3 r23 hr23) (as := []) rfl rfl (Nat.le_of_ble_eq_true rfl) z00 ?_
  refine z_aload_n X dX10_find_26 0 rfl ?_
  refine z_iconst X dX10_find_27 kc_0 ?_
  refine y_put X fl_RX10_42 dX10_find_28 g1 rfl (by decide) ?_
  let h_4 : Hp := hput r23 l0 3 0
  refine z_aload_n X dX10_find_31 0 rfl ?_
  refine z_iconst X dX10_find_32 kc_0 ?_
  refine y_put X fl_RX10_46 dX10_find_33 g1 rfl (by decide) ?_
  let h_5 : Hp := hput h_4 l0 10 0
  refine z_aload_n X dX10_find_36 0 rfl ?_
  refine z_aload_n X dX10_find_37 1 rfl ?_
  refine y_get X fl_RX10_49 dX10_find_38 g2 ?_
  refine y_put X fl_RX10_52 dX10_find_41 g1 rfl (by decide) ?_
  let h_6 : Hp := hput h_5 l0 11 (h_5 l1 1)
  refine z_aload_n X dX10_find_44 0 rfl ?_
  refine z_lload_n X dX10_find_45 2 rfl ?_
  refine y_put X fl_RX10_55 dX10_find_46 g1 rfl (by decide) ?_
  let h_7 : Hp := hput h_6 l0 9 l2
  refine z_aload_n X dX10_find_49 0 rfl ?_
  refine z_aload_n X dX10_find_50 0 rfl ?_
  refine y_get X fl_RX10_32 dX10_find_51 g1 ?_
  obtain ⟨g4, hf⟩ := gif hf
  obtain ⟨r54, hr54, hf⟩ := obE hf
  refine y_V1 X cv_RX10_59 dX10_find_54 g4 (c_Gr_hostsAtStart d (Nat.zero_le _) (h_7 l0 1) h_7 r54 hr54) (as := []) rfl rfl (Nat.le_of_ble_eq_true rfl) z00 ?_
  refine z_iconst X dX10_find_57 kc_m1 ?_
  refine z_iconst X dX10_find_58 kc_m1 ?_
  obtain ⟨r59, hr59, hf⟩ := obE hf
  refine y_V0 X cv_RX10_65 dX10_find_59 g1 (c_WF_putHost d (Nat.le_trans (by decide) hd) l0 r54 ((-1)) ((-1)) h_7 r59 hr59) (as := [(0, r54), (0, (-1)), (0, (-1))]) rfl rfl (Nat.le_of_ble_eq_true rfl) z00 ?_
  refine z_iconst X dX10_find_62 kc_0 ?_
  refine z_istore X dX10_find_63 (by decide) (ls' := [(5, (0, 0)), (0, (2, l0)), (1, (2, l1)), (2, (1, l2)), (4, (2, l4))]) rfl ?_
  obtain ⟨q65, hq65, hf⟩ := obE hf
  have hx65_0 : ∀ e213 : Hp, (e213 : Hp) = q65 → ZV g x 8 e213 213 [] [] := by
    intro e213 hq
    subst hq
    cases hf
    exact z_vret X hK dX10_find_213
  exact z_weak [1, 0] rfl (z_loop (Z := (fun q : Int × Hp => ZV g x 8 q.2 65 [(0, (2, l0)), (5, (0, q.1))] [])) (E := fun q => q = q65) (fun q y hb hk => z_WF_find_L65 X hd l0 (fun q => q = q65) hx65_0 q.1 q.2 y hb hk) LN (0, r59) q65 hq65 rfl)
set_option maxHeartbeats 4000000 in
set_option maxRecDepth 100000 in
theorem c_X_feed {l : Launch} {g : GP} (d : Nat) (hd : 2 ≤ d) (l0 l1 l2 l3 l4 l5 : Int) (h : Hp) (y : Int × Hp) (hf : X_feed l0 l1 l2 l3 l4 l5 h = some y) : zM l yX11_feed cX11_feed 6 (some .int) d 0 0 g 157 h [(2, l0), (0, l1), (0, l2), (0, l3), (0, l4), (0, l5)] 157 y.2 (some (0, y.1)) := by
  obtain ⟨d, rfl⟩ : ∃ k, d = k + 1 := ⟨d - 1, by omega⟩
  replace hd : 1 ≤ d := Nat.le_of_succ_le_succ hd
  refine z_start (by decide) (Nat.le_of_ble_eq_true rfl) (fun x X hK _ _ _ hl => ?_)
  show ZV g x 6 h 0 [(0, (2, l0)), (1, (0, l1)), (2, (0, l2)), (3, (0, l3)), (4, (0, l4)), (5, (0, l5))] []
  unfold X_feed at hf
  refine z_aload_n X dX11_feed_0 0 rfl ?_
  obtain ⟨g1, hf⟩ := gif hf
  refine y_get X fl_RX11_14 dX11_feed_1 g1 ?_
  obtain ⟨g2, hf⟩ := gif hf
  obtain ⟨r4, hr4, hf⟩ := obE hf
  refine y_V1 X cv_RX11_111 dX11_feed_4 g2 (c_By_room d (Nat.zero_le _) (h l0 0) h r4 hr4) (as := []) rfl rfl (Nat.le_of_ble_eq_true rfl) z00 ?_
  refine z_bipush X dX11_feed_7 kb_20 kc_20 ?_
  refine z_icmp_ge X dX11_feed_9 rfl (fun hc9 => ?_) (fun hc9 => ?_)
  · have hf := ift hc9 hf
    refine z_aload_n X dX11_feed_14 0 rfl ?_
    refine y_get X fl_RX11_14 dX11_feed_15 g1 ?_
    refine z_iload_n X dX11_feed_18 1 rfl ?_
    obtain ⟨r19, hr19, hf⟩ := obE hf
    refine y_V0 X cv_RX11_115 dX11_feed_19 g2 (c_By_addFour d (Nat.le_trans (by decide) hd) (h l0 0) l1 h r19 hr19) (as := [(0, l1)]) rfl rfl (Nat.le_of_ble_eq_true rfl) z00 ?_
    refine z_aload_n X dX11_feed_22 0 rfl ?_
    refine y_get X fl_RX11_14 dX11_feed_23 g1 ?_
    refine z_iload_n X dX11_feed_26 2 rfl ?_
    obtain ⟨g3, hf⟩ := gif hf
    obtain ⟨r27, hr27, hf⟩ := obE hf
    refine y_V0 X cv_RX11_115 dX11_feed_27 g3 (c_By_addFour d (Nat.le_trans (by decide) hd) (r19 l0 0) l2 r19 r27 hr27) (as := [(0, l2)]) rfl rfl (Nat.le_of_ble_eq_true rfl) z00 ?_
    refine z_aload_n X dX11_feed_30 0 rfl ?_
    refine y_get X fl_RX11_14 dX11_feed_31 g1 ?_
    refine z_iload_n X dX11_feed_34 3 rfl ?_
    obtain ⟨g4, hf⟩ := gif hf
    obtain ⟨r35, hr35, hf⟩ := obE hf
    refine y_V0 X cv_RX11_115 dX11_feed_35 g4 (c_By_addFour d (Nat.le_trans (by decide) hd) (r27 l0 0) l3 r27 r35 hr35) (as := [(0, l3)]) rfl rfl (Nat.le_of_ble_eq_true rfl) z00 ?_
    refine z_aload_n X dX11_feed_38 0 rfl ?_
    refine y_get X fl_RX11_14 dX11_feed_39 g1 ?_
    refine z_iload X dX11_feed_42 4 rfl ?_
    obtain ⟨g5, hf⟩ := gif hf
    obtain ⟨r44, hr44, hf⟩ := obE hf
    refine y_V0 X cv_RX11_115 dX11_feed_44 g5 (c_By_addFour d (Nat.le_trans (by decide) hd) (r35 l0 0) l4 r35 r44 hr44) (as := [(0, l4)]) rfl rfl (Nat.le_of_ble_eq_true rfl) z00 ?_
    refine z_aload_n X dX11_feed_47 0 rfl ?_
    refine y_get X fl_RX11_14 dX11_feed_48 g1 ?_
    refine z_iload X dX11_feed_51 5 rfl ?_
    obtain ⟨g6, hf⟩ := gif hf
    obtain ⟨r53, hr53, hf⟩ := obE hf
    refine y_V0 X cv_RX11_115 dX11_feed_53 g6 (c_By_addFour d (Nat.le_trans (by decide) hd) (r44 l0 0) l5 r44 r53 hr53) (as := [(0, l5)]) rfl rfl (Nat.le_of_ble_eq_true rfl) z00 ?_
    refine z_aload_n X dX11_feed_56 0 rfl ?_
    refine y_get X fl_RX11_14 dX11_feed_57 g1 ?_
    obtain ⟨g7, hf⟩ := gif hf
    refine y_get X fl_RX11_118 dX11_feed_60 g7 ?_
    cases hf
    exact z_iret X hK dX11_feed_63
  · have hf := iff' hc9 hf
    refine z_iconst X dX11_feed_12 kc_m1 ?_
    cases hf
    exact z_iret X hK dX11_feed_13
set_option maxHeartbeats 4000000 in
set_option maxRecDepth 100000 in
theorem c_X_end {l : Launch} {g : GP} (d : Nat) (hd : 0 ≤ d) (l0 l1 : Int) (h : Hp) (y : Int × Hp) (hf : X_end l0 l1 h = some y) : zM l yX11_end cX11_end 2 (some .int) d 0 0 g 157 h [(2, l0), (0, l1)] 157 y.2 (some (0, y.1)) := by
  refine z_start (by decide) (Nat.le_of_ble_eq_true rfl) (fun x X hK _ _ _ hl => ?_)
  show ZV g x 2 h 0 [(0, (2, l0)), (1, (0, l1))] []
  unfold X_end at hf
  refine z_iload_n X dX11_end_0 1 rfl ?_
  refine z_if_lt X dX11_end_1 rfl (fun hc1 => ?_) (fun hc1 => ?_)
  · have hf := ift hc1 hf
    refine z_iconst X dX11_end_15 kc_m1 ?_
    cases hf
    exact z_iret X hK dX11_end_16
  · have hf := iff' hc1 hf
    refine z_iload_n X dX11_end_4 1 rfl ?_
    refine z_aload_n X dX11_end_5 0 rfl ?_
    obtain ⟨g1, hf⟩ := gif hf
    refine y_get X fl_RX11_14 dX11_end_6 g1 ?_
    obtain ⟨g2, hf⟩ := gif hf
    refine y_get X fl_RX11_118 dX11_end_9 g2 ?_
    refine z_icmp_le X dX11_end_12 rfl (fun hc12 => ?_) (fun hc12 => ?_)
    · have hf := ift hc12 hf
      refine z_aload_n X dX11_end_17 0 rfl ?_
      refine y_get X fl_RX11_14 dX11_end_18 g1 ?_
      refine z_iload_n X dX11_end_21 1 rfl ?_
      refine y_put X fl_RX11_118 dX11_end_22 g2 rfl (by decide) ?_
      let h_1 : Hp := hput h (h l0 0) 1 l1
      refine z_iload_n X dX11_end_25 1 rfl ?_
      cases hf
      exact z_iret X hK dX11_end_26
    · have hf := iff' hc12 hf
      refine z_iconst X dX11_end_15 kc_m1 ?_
      cases hf
      exact z_iret X hK dX11_end_16
set_option maxHeartbeats 4000000 in
set_option maxRecDepth 100000 in
theorem c_X_grammar {l : Launch} {g : GP} (d : Nat) (hd : 6 ≤ d) (l0 : Int) (h : Hp) (y : Int × Hp) (hf : X_grammar l0 h = some y) : zM l yX11_grammar cX11_grammar 3 (some .int) d 0 0 g 157 h [(2, l0)] 157 y.2 (some (0, y.1)) := by
  obtain ⟨d, rfl⟩ : ∃ k, d = k + 1 := ⟨d - 1, by omega⟩
  replace hd : 5 ≤ d := Nat.le_of_succ_le_succ hd
  refine z_start (by decide) (Nat.le_of_ble_eq_true rfl) (fun x X hK _ _ _ hl => ?_)
  show ZV g x 3 h 0 [(0, (2, l0))] []
  unfold X_grammar at hf
  refine z_aload_n X dX11_grammar_0 0 rfl ?_
  obtain ⟨g1, hf⟩ := gif hf
  refine y_get X fl_RX11_27 dX11_grammar_1 g1 ?_
  refine z_aload_n X dX11_grammar_4 0 rfl ?_
  refine y_get X fl_RX11_14 dX11_grammar_5 g1 ?_
  refine z_aload_n X dX11_grammar_8 0 rfl ?_
  refine y_get X fl_RX11_104 dX11_grammar_9 g1 ?_
  obtain ⟨g2, hf⟩ := gif hf
  obtain ⟨r12, hr12, hf⟩ := obE hf
  refine y_V1 X cv_RX11_121 dX11_grammar_12 g2 (c_GR_readText d (Nat.le_trans (by decide) hd) (h l0 3) (h l0 0) (h l0 16) h r12 hr12) (as := [(2, h l0 0), (2, h l0 16)]) rfl rfl (Nat.le_of_ble_eq_true rfl) z00 ?_
  refine z_istore_n X dX11_grammar_15 (by decide) (ls' := [(1, (0, r12.1)), (0, (2, l0))]) rfl ?_
  refine z_aload_n X dX11_grammar_16 1 rfl ?_
  refine y_get X fl_RX11_14 dX11_grammar_17 g1 ?_
  refine z_iconst X dX11_grammar_20 kc_0 ?_
  obtain ⟨g3, hf⟩ := gif hf
  refine y_put X fl_RX11_118 dX11_grammar_21 g3 rfl (by decide) ?_
  let h_1 : Hp := hput r12.2 (r12.2 l0 0) 1 0
  refine z_iload_n X dX11_grammar_24 0 rfl ?_
  refine z_if_ne X dX11_grammar_25 rfl (fun hc25 => ?_) (fun hc25 => ?_)
  · have hf := iff' hc25 hf
    refine z_aload_n X dX11_grammar_31 1 rfl ?_
    refine y_get X fl_RX11_100 dX11_grammar_32 g1 ?_
    obtain ⟨g4, hf⟩ := gif hf
    refine z_astore_n X dX11_grammar_35 (by decide) g4 (ls' := [(2, (2, h_1 l0 15)), (1, (0, r12.1)), (0, (2, l0))]) rfl ?_
    refine z_aload_n X dX11_grammar_36 2 rfl ?_
    refine z_aload_n X dX11_grammar_37 2 rfl ?_
    refine y_get X fl_RX11_104 dX11_grammar_38 g1 ?_
    refine y_put X fl_RX11_100 dX11_grammar_41 g1 rfl (by decide) ?_
    let h_2 : Hp := hput h_1 l0 15 (h_1 l0 16)
    refine z_aload_n X dX11_grammar_44 2 rfl ?_
    refine z_aload_n X dX11_grammar_45 0 rfl ?_
    refine y_put X fl_RX11_104 dX11_grammar_46 g1 rfl (by decide) ?_
    let h_3 : Hp := hput h_2 l0 16 (h_1 l0 15)
    refine z_aload_n X dX11_grammar_49 2 rfl ?_
    refine z_iconst X dX11_grammar_50 kc_0 ?_
    refine y_put X fl_RX11_107 dX11_grammar_51 g1 rfl (by decide) ?_
    let h_4 : Hp := hput h_3 l0 17 0
    refine z_aload_n X dX11_grammar_54 2 rfl ?_
    refine y_get X fl_RX11_100 dX11_grammar_55 g1 ?_
    obtain ⟨g5, hf⟩ := gif hf
    refine y_get X fl_RX11_125 dX11_grammar_58 g5 ?_
    cases hf
    exact z_iret X hK dX11_grammar_61
  · have hf := ift hc25 hf
    refine z_bipush X dX11_grammar_28 kb_m4 kc_m4 ?_
    cases hf
    exact z_iret X hK dX11_grammar_30
