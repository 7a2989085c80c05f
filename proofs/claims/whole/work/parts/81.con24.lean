set_option maxHeartbeats 4000000 in
set_option maxRecDepth 100000 in
theorem z_M_hears_j40 {g : GP} {x : CX} {d : Nat} (X : zX g x RX12 cX12_hears 1 (d + 1)) (hd : 3 ≤ d) (l0 : Int) (h : Hp) (y : (Hp) ⊕ ((Hp) ⊕ (Hp))) (hf : M_hears_j40 l0 h = some y) (E : (Hp) ⊕ (Hp) → Prop) (hx0 : ∀ e : Hp, E (.inl e) → ZV g x 1 e 65 [] []) (hx1 : ∀ e : Hp, E (.inr e) → ZV g x 1 e 178 [] []) (hk : z_sum (fun q : Hp => ZV g x 1 q 19 [(0, (2, l0))] []) E y) : ZV g x 1 h 40 [(0, (2, l0))] [] := by
  unfold M_hears_j40 at hf
  refine z_aload_n X dX12_hears_40 0 rfl ?_
  refine z_aload_n X dX12_hears_41 0 rfl ?_
  obtain ⟨g3, hf⟩ := gif hf
  refine y_get X fl_RX12_535 dX12_hears_42 g3 ?_
  refine z_bipush X dX12_hears_45 kb_40 kc_40 ?_
  refine z_icmp_ge X dX12_hears_47 rfl (fun hc47 => ?_) (fun hc47 => ?_)
  · rw [if_pos hc47] at hf
    refine z_iconst X dX12_hears_54 kc_0 ?_
    exact (z_M_hears_j55 X hd l0 0 l0 h _ hf E hx0 hx1 hk)
  · rw [if_neg hc47] at hf
    refine z_iconst X dX12_hears_50 kc_1 ?_
    refine z_goto X dX12_hears_51 rfl ?_
    exact (z_M_hears_j55 X hd l0 1 l0 h _ hf E hx0 hx1 hk)
set_option maxHeartbeats 4000000 in
set_option maxRecDepth 100000 in
theorem z_M_hears_L19 {g : GP} {x : CX} {d : Nat} (X : zX g x RX12 cX12_hears 1 (d + 1)) (hd : 3 ≤ d) (l0 : Int)  (E : (Hp) ⊕ (Hp) → Prop) (hx0 : ∀ e : Hp, E (.inl e) → ZV g x 1 e 65 [] []) (hx1 : ∀ e : Hp, E (.inr e) → ZV g x 1 e 178 [] []) (h : Hp) (y : (Hp) ⊕ ((Hp) ⊕ (Hp))) (hf : M_hears_L19 l0 h = some y) (hk : z_sum (fun q : Hp => ZV g x 1 q 19 [(0, (2, l0))] []) E y) : ZV g x 1 h 19 [(0, (2, l0))] [] := by
  unfold M_hears_L19 at hf
  refine z_aload_n X dX12_hears_19 0 rfl ?_
  obtain ⟨g2, hf⟩ := gif hf
  refine y_get X fl_RX12_529 dX12_hears_20 g2 ?_
  refine z_if_eq X dX12_hears_23 rfl (fun hc23 => ?_) (fun hc23 => ?_)
  · have hf := ift hc23 hf
    cases hf
    exact z_weak [] rfl (hx1 _ hk)
  · have hf := iff' hc23 hf
    refine z_aload_n X dX12_hears_26 0 rfl ?_
    refine y_get X fl_RX12_61 dX12_hears_27 g2 ?_
    refine z_if_ne X dX12_hears_30 rfl (fun hc30 => ?_) (fun hc30 => ?_)
    · have hf := iff' hc30 hf
      exact (z_M_hears_j40 X hd l0 h _ hf E hx0 hx1 hk)
    · have hf := ift hc30 hf
      refine z_aload_n X dX12_hears_33 0 rfl ?_
      refine y_get X fl_RX12_535 dX12_hears_34 g2 ?_
      refine z_if_ne X dX12_hears_37 rfl (fun hc37 => ?_) (fun hc37 => ?_)
      · have hf := iff' hc37 hf
        cases hf
        exact z_weak [] rfl (hx1 _ hk)
      · have hf := ift hc37 hf
        exact (z_M_hears_j40 X hd l0 h _ hf E hx0 hx1 hk)
set_option maxHeartbeats 4000000 in
set_option maxRecDepth 100000 in
theorem c_M_hears {l : Launch} {g : GP} (d : Nat) (hd : 4 ≤ d) (l0 : Int) (h : Hp) (y : Hp) (hf : M_hears l0 h = some y) : zM l yX12_hears cX12_hears 1 none d 0 0 g 157 h [(2, l0)] 157 y none := by
  obtain ⟨d, rfl⟩ : ∃ k, d = k + 1 := ⟨d - 1, by omega⟩
  replace hd : 3 ≤ d := Nat.le_of_succ_le_succ hd
  refine z_start (by decide) (Nat.le_of_ble_eq_true rfl) (fun x X hK _ _ _ hl => ?_)
  show ZV g x 1 h 0 [(0, (2, l0))] []
  unfold M_hears at hf
  refine z_aload_n X dX12_hears_0 0 rfl ?_
  refine z_iconst X dX12_hears_1 kc_0 ?_
  obtain ⟨g1, hf⟩ := gif hf
  refine y_put X fl_RX12_45 dX12_hears_2 g1 rfl (by decide) ?_
  let h_1 : Hp := hput h l0 23 0
  refine z_aload_n X dX12_hears_5 0 rfl ?_
  refine z_iconst X dX12_hears_6 kc_0 ?_
  refine y_put X fl_RX12_535 dX12_hears_7 g1 rfl (by decide) ?_
  let h_2 : Hp := hput h_1 l0 60 0
  refine z_aload_n X dX12_hears_10 0 rfl ?_
  refine z_iconst X dX12_hears_11 kc_1 ?_
  refine y_putZ X fl_RX12_529 dX12_hears_12 g1 (Or.inr rfl) ?_
  let h_3 : Hp := hput h_2 l0 61 1
  refine z_aload_n X dX12_hears_15 0 rfl ?_
  obtain ⟨r16, hr16, hf⟩ := obE hf
  refine y_V0 X cv_RX12_532 dX12_hears_16 g1 (c_M_numberToken d (Nat.le_trans (by decide) hd) l0 h_3 r16 hr16) (as := []) rfl rfl (Nat.le_of_ble_eq_true rfl) z00 ?_
  obtain ⟨q19, hq19, hf⟩ := obE hf
  have hx19_0 : ∀ e65 : Hp, (.inl e65 : (Hp) ⊕ (Hp)) = q19 → ZV g x 1 e65 65 [] [] := by
    intro e65 hq
    subst hq
    dsimp only at hf
    cases hf
    exact z_vret X hK dX12_hears_65
  have hx19_1 : ∀ e178 : Hp, (.inr e178 : (Hp) ⊕ (Hp)) = q19 → ZV g x 1 e178 178 [] [] := by
    intro e178 hq
    subst hq
    dsimp only at hf
    cases hf
    exact z_vret X hK dX12_hears_178
  exact (z_loop (Z := (fun q : Hp => ZV g x 1 q 19 [(0, (2, l0))] [])) (E := fun q => q = q19) (fun q y hb hk => z_M_hears_L19 X hd l0 (fun q => q = q19) hx19_0 hx19_1 q y hb hk) LN r16 q19 hq19 rfl)
set_option maxHeartbeats 4000000 in
set_option maxRecDepth 100000 in
theorem z_M_canPut_j226 {g : GP} {x : CX} {d : Nat} (X : zX g x RX12 cX12_canPut 7 (d + 1)) (hd : 1 ≤ d) (h : Hp) (y : Int) (hf : M_canPut_j226 h = some y) (hK : zE g x (some .boolean) 0 0 157 h (some (0, y))) : ZV g x 7 h 226 [] [] := by
  unfold M_canPut_j226 at hf
  refine z_iconst X dX12_canPut_226 kc_0 ?_
  cases hf
  exact z_zret X hK (Or.inl rfl) dX12_canPut_227
set_option maxHeartbeats 4000000 in
set_option maxRecDepth 100000 in
theorem z_M_canPut_j184 {g : GP} {x : CX} {d : Nat} (X : zX g x RX12 cX12_canPut 7 (d + 1)) (hd : 1 ≤ d) (l0 l2 l3 l4 l5 s0 : Int) (h : Hp) (y : Int) (hf : M_canPut_j184 l0 l2 l3 l4 l5 s0 h = some y) (hK : zE g x (some .boolean) 0 0 157 h (some (0, y))) : ZV g x 7 h 184 [(0, (2, l0)), (2, (0, l2)), (3, (0, l3)), (4, (0, l4)), (5, (0, l5))] [(0, s0)] := by
  unfold M_canPut_j184 at hf
  refine z_istore X dX12_canPut_184 (by decide) (ls' := [(6, (0, s0)), (0, (2, l0)), (2, (0, l2)), (3, (0, l3)), (4, (0, l4)), (5, (0, l5))]) rfl ?_
  refine z_iload X dX12_canPut_186 0 rfl ?_
  refine z_if_eq X dX12_canPut_188 rfl (fun hc188 => ?_) (fun hc188 => ?_)
  · have hf := ift hc188 hf
    exact z_weak [] rfl (z_M_canPut_j226 X hd  h _ hf hK)
  · have hf := iff' hc188 hf
    refine z_aload_n X dX12_canPut_191 1 rfl ?_
    obtain ⟨g8, hf⟩ := gif hf
    refine y_get X fl_RX12_101 dX12_canPut_192 g8 ?_
    refine z_iload X dX12_canPut_195 5 rfl ?_
    obtain ⟨g9, hf⟩ := gif hf
    refine y_iald X dX12_canPut_197 g9 ?_
    refine z_aload_n X dX12_canPut_198 1 rfl ?_
    refine y_get X fl_RX12_101 dX12_canPut_199 g8 ?_
    refine z_aload_n X dX12_canPut_202 1 rfl ?_
    refine z_iload_n X dX12_canPut_203 2 rfl ?_
    obtain ⟨r204, hr204, hf⟩ := obE hf
    refine y_V1 X cv_RX12_268 dX12_canPut_204 g8 (c_M_root d (Nat.zero_le _) l0 l2 h r204 hr204) (as := [(0, l2)]) rfl rfl (Nat.le_of_ble_eq_true rfl) z00 ?_
    obtain ⟨g10, hf⟩ := gif hf
    refine y_iald X dX12_canPut_207 g10 ?_
    refine z_icmp_ne X dX12_canPut_208 rfl (fun hc208 => ?_) (fun hc208 => ?_)
    · have hf := iff' hc208 hf
      exact z_weak [] rfl (z_M_canPut_j226 X hd  h _ hf hK)
    · have hf := ift hc208 hf
      refine z_aload_n X dX12_canPut_211 1 rfl ?_
      refine z_iload_n X dX12_canPut_212 3 rfl ?_
      refine z_iload X dX12_canPut_213 4 rfl ?_
      obtain ⟨r215, hr215, hf⟩ := obE hf
      refine y_V1 X cv_RX12_493 dX12_canPut_215 g8 (c_M_put d (Nat.zero_le _) l0 l3 l4 h r215 hr215) (as := [(0, l3), (0, l4)]) rfl rfl (Nat.le_of_ble_eq_true rfl) z00 ?_
      refine z_iconst X dX12_canPut_218 kc_m1 ?_
      refine z_icmp_ne X dX12_canPut_219 rfl (fun hc219 => ?_) (fun hc219 => ?_)
      · have hf := iff' hc219 hf
        exact z_weak [] rfl (z_M_canPut_j226 X hd  h _ hf hK)
      · have hf := ift hc219 hf
        refine z_iconst X dX12_canPut_222 kc_1 ?_
        refine z_goto X dX12_canPut_223 rfl ?_
        cases hf
        exact z_zret X hK (Or.inr rfl) dX12_canPut_227
set_option maxHeartbeats 4000000 in
set_option maxRecDepth 100000 in
theorem z_M_canPut_j183 {g : GP} {x : CX} {d : Nat} (X : zX g x RX12 cX12_canPut 7 (d + 1)) (hd : 1 ≤ d) (l0 l2 l3 l4 l5 : Int) (h : Hp) (y : Int) (hf : M_canPut_j183 l0 l2 l3 l4 l5 h = some y) (hK : zE g x (some .boolean) 0 0 157 h (some (0, y))) : ZV g x 7 h 183 [(0, (2, l0)), (2, (0, l2)), (3, (0, l3)), (4, (0, l4)), (5, (0, l5))] [] := by
  unfold M_canPut_j183 at hf
  refine z_iconst X dX12_canPut_183 kc_0 ?_
  exact (z_M_canPut_j184 X hd l0 l2 l3 l4 l5 0 h _ hf hK)
set_option maxHeartbeats 4000000 in
set_option maxRecDepth 100000 in
theorem z_M_canPut_j156 {g : GP} {x : CX} {d : Nat} (X : zX g x RX12 cX12_canPut 7 (d + 1)) (hd : 1 ≤ d) (l0 l2 l3 l4 l5 : Int) (h : Hp) (y : Int) (hf : M_canPut_j156 l0 l2 l3 l4 l5 h = some y) (hK : zE g x (some .boolean) 0 0 157 h (some (0, y))) : ZV g x 7 h 156 [(0, (2, l0)), (2, (0, l2)), (3, (0, l3)), (4, (0, l4)), (5, (0, l5))] [] := by
  unfold M_canPut_j156 at hf
  refine z_iconst X dX12_canPut_156 kc_0 ?_
  refine z_goto X dX12_canPut_157 rfl ?_
  exact (z_M_canPut_j184 X hd l0 l2 l3 l4 l5 0 h _ hf hK)
set_option maxHeartbeats 4000000 in
set_option maxRecDepth 100000 in
theorem z_M_canPut_j83 {g : GP} {x : CX} {d : Nat} (X : zX g x RX12 cX12_canPut 7 (d + 1)) (hd : 1 ≤ d) (h : Hp) (y : Int) (hf : M_canPut_j83 h = some y) (hK : zE g x (some .boolean) 0 0 157 h (some (0, y))) : ZV g x 7 h 83 [] [] := by
  unfold M_canPut_j83 at hf
  refine z_iconst X dX12_canPut_83 kc_0 ?_
  cases hf
  exact z_zret X hK (Or.inl rfl) dX12_canPut_84
set_option maxHeartbeats 4000000 in
set_option maxRecDepth 100000 in
theorem c_M_canPut {l : Launch} {g : GP} (d : Nat) (hd : 2 ≤ d) (l0 l1 : Int) (h : Hp) (y : Int) (hf : M_canPut l0 l1 h = some y) : zM l yX12_canPut cX12_canPut 7 (some .boolean) d 0 0 g 157 h [(2, l0), (0, l1)] 157 h (some (0, y)) := by
  obtain ⟨d, rfl⟩ : ∃ k, d = k + 1 := ⟨d - 1, by omega⟩
  replace hd : 1 ≤ d := Nat.le_of_succ_le_succ hd
  refine z_start (by decide) (Nat.le_of_ble_eq_true rfl) (fun x X hK _ _ _ hl => ?_)
  show ZV g x 7 h 0 [(0, (2, l0)), (1, (0, l1))] []
  unfold M_canPut at hf
  refine z_aload_n X dX12_canPut_0 0 rfl ?_
  obtain ⟨g1, hf⟩ := gif hf
  refine y_get X fl_RX12_238 dX12_canPut_1 g1 ?_
  refine z_iconst X dX12_canPut_4 kc_3 ?_
  refine z_iload_n X dX12_canPut_5 1 rfl ?_
  refine z_imul X dX12_canPut_6 ?_
  obtain ⟨g2, hf⟩ := gif hf
  refine y_iald X dX12_canPut_7 g2 ?_
  refine z_istore_n X dX12_canPut_8 (by decide) (ls' := [(2, (0, h (h l0 59) (w32 (3 * l1)))), (0, (2, l0)), (1, (0, l1))]) rfl ?_
  refine z_aload_n X dX12_canPut_9 1 rfl ?_
  refine y_get X fl_RX12_238 dX12_canPut_10 g1 ?_
  refine z_iconst X dX12_canPut_13 kc_3 ?_
  refine z_iload_n X dX12_canPut_14 2 rfl ?_
  refine z_imul X dX12_canPut_15 ?_
  refine z_iconst X dX12_canPut_16 kc_1 ?_
  refine z_iadd X dX12_canPut_17 ?_
  obtain ⟨g3, hf⟩ := gif hf
  refine y_iald X dX12_canPut_18 g3 ?_
  refine z_istore_n X dX12_canPut_19 (by decide) (ls' := [(3, (0, h (h l0 59) (w32 ((w32 (3 * l1)) + 1)))), (2, (0, h (h l0 59) (w32 (3 * l1)))), (0, (2, l0)), (1, (0, l1))]) rfl ?_
  refine z_aload_n X dX12_canPut_20 2 rfl ?_
  refine y_get X fl_RX12_238 dX12_canPut_21 g1 ?_
  refine z_iconst X dX12_canPut_24 kc_3 ?_
  refine z_iload_n X dX12_canPut_25 3 rfl ?_
  refine z_imul X dX12_canPut_26 ?_
  refine z_iconst X dX12_canPut_27 kc_2 ?_
  refine z_iadd X dX12_canPut_28 ?_
  obtain ⟨g4, hf⟩ := gif hf
  refine y_iald X dX12_canPut_29 g4 ?_
  refine z_istore X dX12_canPut_30 (by decide) (ls' := [(4, (0, h (h l0 59) (w32 ((w32 (3 * l1)) + 2)))), (3, (0, h (h l0 59) (w32 ((w32 (3 * l1)) + 1)))), (2, (0, h (h l0 59) (w32 (3 * l1)))), (0, (2, l0)), (1, (0, l1))]) rfl ?_
  refine z_aload_n X dX12_canPut_32 3 rfl ?_
  refine z_iload_n X dX12_canPut_33 2 rfl ?_
  obtain ⟨r34, hr34, hf⟩ := obE hf
  refine y_V1 X cv_RX12_18 dX12_canPut_34 g1 (c_M_isTree d (Nat.le_trans (by decide) hd) l0 (h (h l0 59) (w32 (3 * l1))) h r34 hr34) (as := [(0, h (h l0 59) (w32 (3 * l1)))]) rfl rfl (Nat.le_of_ble_eq_true rfl) z00 ?_
  refine z_if_eq X dX12_canPut_37 rfl (fun hc37 => ?_) (fun hc37 => ?_)
  · have hf := ift hc37 hf
    refine z_iconst X dX12_canPut_48 kc_0 ?_
    cases hf
    exact z_zret X hK (Or.inl rfl) dX12_canPut_49
  · have hf := iff' hc37 hf
    refine z_aload_n X dX12_canPut_40 3 rfl ?_
    refine z_iload_n X dX12_canPut_41 2 rfl ?_
    obtain ⟨r42, hr42, hf⟩ := obE hf
    refine y_V1 X cv_RX12_384 dX12_canPut_42 g1 (c_M_isOut d (Nat.zero_le _) l0 (h (h l0 59) (w32 (3 * l1))) h r42 hr42) (as := [(0, h (h l0 59) (w32 (3 * l1)))]) rfl rfl (Nat.le_of_ble_eq_true rfl) z00 ?_
    refine z_if_eq X dX12_canPut_45 rfl (fun hc45 => ?_) (fun hc45 => ?_)
    · have hf := ift hc45 hf
      refine z_iload_n X dX12_canPut_50 4 rfl ?_
      refine z_if_ne X dX12_canPut_51 rfl (fun hc51 => ?_) (fun hc51 => ?_)
      · have hf := iff' hc51 hf
        refine z_iload_n X dX12_canPut_85 1 rfl ?_
        refine z_iload_n X dX12_canPut_86 4 rfl ?_
        refine z_icmp_ge X dX12_canPut_87 rfl (fun hc87 => ?_) (fun hc87 => ?_)
        · have hf := ift hc87 hf
          refine z_iconst X dX12_canPut_105 kc_0 ?_
          cases hf
          exact z_zret X hK (Or.inl rfl) dX12_canPut_106
        · have hf := iff' hc87 hf
          refine z_iload X dX12_canPut_90 0 rfl ?_
          refine z_aload_n X dX12_canPut_92 3 rfl ?_
          refine z_aload_n X dX12_canPut_93 3 rfl ?_
          refine y_get X fl_RX12_214 dX12_canPut_94 g1 ?_
          refine z_iload_n X dX12_canPut_97 1 rfl ?_
          obtain ⟨g5, hf⟩ := gif hf
          refine y_iald X dX12_canPut_98 g5 ?_
          obtain ⟨r99, hr99, hf⟩ := obE hf
          refine y_V1 X cv_RX12_22 dX12_canPut_99 g1 (c_M_nodesOf d (Nat.zero_le _) l0 (h (h l0 49) (h (h l0 59) (w32 ((w32 (3 * l1)) + 1)))) h r99 hr99) (as := [(0, h (h l0 49) (h (h l0 59) (w32 ((w32 (3 * l1)) + 1))))]) rfl rfl (Nat.le_of_ble_eq_true rfl) z00 ?_
          refine z_icmp_lt X dX12_canPut_102 rfl (fun hc102 => ?_) (fun hc102 => ?_)
          · have hf := ift hc102 hf
            refine z_aload_n X dX12_canPut_107 3 rfl ?_
            refine y_get X fl_RX12_7 dX12_canPut_108 g1 ?_
            refine z_aload_n X dX12_canPut_111 3 rfl ?_
            refine y_get X fl_RX12_214 dX12_canPut_112 g1 ?_
            refine z_iload_n X dX12_canPut_115 1 rfl ?_
            refine y_iald X dX12_canPut_116 g5 ?_
            obtain ⟨g6, hf⟩ := gif hf
            refine y_iald X dX12_canPut_117 g6 ?_
            refine z_iload X dX12_canPut_118 0 rfl ?_
            refine z_iadd X dX12_canPut_120 ?_
            refine z_istore X dX12_canPut_121 (by decide) (ls' := [(5, (0, w32 ((h (h l0 4) (h (h l0 49) (h (h l0 59) (w32 ((w32 (3 * l1)) + 1))))) + (h (h l0 59) (w32 ((w32 (3 * l1)) + 2)))))), (4, (0, h (h l0 59) (w32 ((w32 (3 * l1)) + 2)))), (3, (0, h (h l0 59) (w32 ((w32 (3 * l1)) + 1)))), (2, (0, h (h l0 59) (w32 (3 * l1)))), (0, (2, l0)), (1, (0, l1))]) rfl ?_
            refine z_aload_n X dX12_canPut_123 4 rfl ?_
            refine y_get X fl_RX12_98 dX12_canPut_124 g1 ?_
            refine z_iload X dX12_canPut_127 0 rfl ?_
            obtain ⟨g7, hf⟩ := gif hf
            refine y_iald X dX12_canPut_129 g7 ?_
            refine z_if_ne X dX12_canPut_130 rfl (fun hc130 => ?_) (fun hc130 => ?_)
            · have hf := iff' hc130 hf
              refine z_aload_n X dX12_canPut_160 4 rfl ?_
              refine y_get X fl_RX12_98 dX12_canPut_161 g1 ?_
              refine z_iload X dX12_canPut_164 0 rfl ?_
              refine y_iald X dX12_canPut_166 g7 ?_
              refine z_iconst X dX12_canPut_167 kc_4 ?_
              refine z_icmp_ne X dX12_canPut_168 rfl (fun hc168 => ?_) (fun hc168 => ?_)
              · have hf := iff' hc168 hf
                exact z_weak [4, 3, 2, 1, 0] rfl (z_M_canPut_j183 X hd l0 (h (h l0 59) (w32 (3 * l1))) (h (h l0 59) (w32 ((w32 (3 * l1)) + 1))) (h (h l0 59) (w32 ((w32 (3 * l1)) + 2))) (w32 ((h (h l0 4) (h (h l0 49) (h (h l0 59) (w32 ((w32 (3 * l1)) + 1))))) + (h (h l0 59) (w32 ((w32 (3 * l1)) + 2))))) h _ hf hK)
              · have hf := ift hc168 hf
                refine z_aload_n X dX12_canPut_171 4 rfl ?_
                refine z_iload_n X dX12_canPut_172 3 rfl ?_
                obtain ⟨r173, hr173, hf⟩ := obE hf
                refine y_V1 X cv_RX12_265 dX12_canPut_173 g1 (c_M_isGuest d (Nat.zero_le _) l0 (h (h l0 59) (w32 (3 * l1))) h r173 hr173) (as := [(0, h (h l0 59) (w32 (3 * l1)))]) rfl rfl (Nat.le_of_ble_eq_true rfl) z00 ?_
                refine z_if_ne X dX12_canPut_176 rfl (fun hc176 => ?_) (fun hc176 => ?_)
                · have hf := iff' hc176 hf
                  exact z_weak [4, 3, 2, 1, 0] rfl (z_M_canPut_j183 X hd l0 (h (h l0 59) (w32 (3 * l1))) (h (h l0 59) (w32 ((w32 (3 * l1)) + 1))) (h (h l0 59) (w32 ((w32 (3 * l1)) + 2))) (w32 ((h (h l0 4) (h (h l0 49) (h (h l0 59) (w32 ((w32 (3 * l1)) + 1))))) + (h (h l0 59) (w32 ((w32 (3 * l1)) + 2))))) h _ hf hK)
                · have hf := ift hc176 hf
                  refine z_iconst X dX12_canPut_179 kc_1 ?_
                  refine z_goto X dX12_canPut_180 rfl ?_
                  exact z_weak [4, 3, 2, 1, 0] rfl (z_M_canPut_j184 X hd l0 (h (h l0 59) (w32 (3 * l1))) (h (h l0 59) (w32 ((w32 (3 * l1)) + 1))) (h (h l0 59) (w32 ((w32 (3 * l1)) + 2))) (w32 ((h (h l0 4) (h (h l0 49) (h (h l0 59) (w32 ((w32 (3 * l1)) + 1))))) + (h (h l0 59) (w32 ((w32 (3 * l1)) + 2))))) 1 h _ hf hK)
            · have hf := ift hc130 hf
              refine z_aload_n X dX12_canPut_133 4 rfl ?_
              refine z_iload_n X dX12_canPut_134 3 rfl ?_
              obtain ⟨r135, hr135, hf⟩ := obE hf
              refine y_V1 X cv_RX12_265 dX12_canPut_135 g1 (c_M_isGuest d (Nat.zero_le _) l0 (h (h l0 59) (w32 (3 * l1))) h r135 hr135) (as := [(0, h (h l0 59) (w32 (3 * l1)))]) rfl rfl (Nat.le_of_ble_eq_true rfl) z00 ?_
              refine z_if_eq X dX12_canPut_138 rfl (fun hc138 => ?_) (fun hc138 => ?_)
              · have hf := ift hc138 hf
                exact z_weak [4, 3, 2, 1, 0] rfl (z_M_canPut_j156 X hd l0 (h (h l0 59) (w32 (3 * l1))) (h (h l0 59) (w32 ((w32 (3 * l1)) + 1))) (h (h l0 59) (w32 ((w32 (3 * l1)) + 2))) (w32 ((h (h l0 4) (h (h l0 49) (h (h l0 59) (w32 ((w32 (3 * l1)) + 1))))) + (h (h l0 59) (w32 ((w32 (3 * l1)) + 2))))) h _ hf hK)
              · have hf := iff' hc138 hf
                refine z_aload_n X dX12_canPut_141 4 rfl ?_
                refine y_get X fl_RX12_104 dX12_canPut_142 g1 ?_
                refine z_iload X dX12_canPut_145 0 rfl ?_
                obtain ⟨g11, hf⟩ := gif hf
                refine y_iald X dX12_canPut_147 g11 ?_
                refine z_iconst X dX12_canPut_148 kc_1 ?_
                refine z_icmp_eq X dX12_canPut_149 rfl (fun hc149 => ?_) (fun hc149 => ?_)
                · have hf := ift hc149 hf
                  exact z_weak [4, 3, 2, 1, 0] rfl (z_M_canPut_j156 X hd l0 (h (h l0 59) (w32 (3 * l1))) (h (h l0 59) (w32 ((w32 (3 * l1)) + 1))) (h (h l0 59) (w32 ((w32 (3 * l1)) + 2))) (w32 ((h (h l0 4) (h (h l0 49) (h (h l0 59) (w32 ((w32 (3 * l1)) + 1))))) + (h (h l0 59) (w32 ((w32 (3 * l1)) + 2))))) h _ hf hK)
                · have hf := iff' hc149 hf
                  refine z_iconst X dX12_canPut_152 kc_1 ?_
                  refine z_goto X dX12_canPut_153 rfl ?_
                  exact z_weak [4, 3, 2, 1, 0] rfl (z_M_canPut_j184 X hd l0 (h (h l0 59) (w32 (3 * l1))) (h (h l0 59) (w32 ((w32 (3 * l1)) + 1))) (h (h l0 59) (w32 ((w32 (3 * l1)) + 2))) (w32 ((h (h l0 4) (h (h l0 49) (h (h l0 59) (w32 ((w32 (3 * l1)) + 1))))) + (h (h l0 59) (w32 ((w32 (3 * l1)) + 2))))) 1 h _ hf hK)
          · have hf := iff' hc102 hf
            refine z_iconst X dX12_canPut_105 kc_0 ?_
            cases hf
            exact z_zret X hK (Or.inl rfl) dX12_canPut_106
      · have hf := ift hc51 hf
        refine z_aload_n X dX12_canPut_54 3 rfl ?_
        refine z_iload_n X dX12_canPut_55 2 rfl ?_
        obtain ⟨r56, hr56, hf⟩ := obE hf
        refine y_V1 X cv_RX12_265 dX12_canPut_56 g1 (c_M_isGuest d (Nat.zero_le _) l0 (h (h l0 59) (w32 (3 * l1))) h r56 hr56) (as := [(0, h (h l0 59) (w32 (3 * l1)))]) rfl rfl (Nat.le_of_ble_eq_true rfl) z00 ?_
        refine z_if_ne X dX12_canPut_59 rfl (fun hc59 => ?_) (fun hc59 => ?_)
        · have hf := iff' hc59 hf
          exact z_weak [] rfl (z_M_canPut_j83 X hd  h _ hf hK)
        · have hf := ift hc59 hf
          refine z_aload_n X dX12_canPut_62 3 rfl ?_
          refine y_get X fl_RX12_101 dX12_canPut_63 g1 ?_
          refine z_aload_n X dX12_canPut_66 3 rfl ?_
          refine z_iload_n X dX12_canPut_67 2 rfl ?_
          obtain ⟨r68, hr68, hf⟩ := obE hf
          refine y_V1 X cv_RX12_268 dX12_canPut_68 g1 (c_M_root d (Nat.zero_le _) l0 (h (h l0 59) (w32 (3 * l1))) h r68 hr68) (as := [(0, h (h l0 59) (w32 (3 * l1)))]) rfl rfl (Nat.le_of_ble_eq_true rfl) z00 ?_
          obtain ⟨g12, hf⟩ := gif hf
          refine y_iald X dX12_canPut_71 g12 ?_
          refine z_aload_n X dX12_canPut_72 3 rfl ?_
          obtain ⟨r73, hr73, hf⟩ := obE hf
          refine y_V1 X cv_RX12_354 dX12_canPut_73 g1 (c_M_start d (Nat.zero_le _) l0 h r73 hr73) (as := []) rfl rfl (Nat.le_of_ble_eq_true rfl) z00 ?_
          refine z_icmp_ne X dX12_canPut_76 rfl (fun hc76 => ?_) (fun hc76 => ?_)
          · have hf := iff' hc76 hf
            exact z_weak [] rfl (z_M_canPut_j83 X hd  h _ hf hK)
          · have hf := ift hc76 hf
            refine z_iconst X dX12_canPut_79 kc_1 ?_
            refine z_goto X dX12_canPut_80 rfl ?_
            cases hf
            exact z_zret X hK (Or.inr rfl) dX12_canPut_84
    · have hf := iff' hc45 hf
      refine z_iconst X dX12_canPut_48 kc_0 ?_
      cases hf
      exact z_zret X hK (Or.inl rfl) dX12_canPut_49
set_option maxHeartbeats 4000000 in
set_option maxRecDepth 100000 in
theorem z_M_lacks_j71 {g : GP} {x : CX} {d : Nat} (X : zX g x RX12 cX12_lacks 6 (d + 1)) (hd : 0 ≤ d) (l0 l1 l2 l3 l4 : Int) (h : Hp) (y : (Int) ⊕ ((Unit) ⊕ (Unit))) (hf : M_lacks_j71 l0 l1 l2 l3 l4 h = some y) (E : (Unit) ⊕ (Unit) → Prop) (hx0 : ∀ e : Unit, E (.inl e) → ZV g x 6 h 69 [] []) (hx1 : ∀ e : Unit, E (.inr e) → ZV g x 6 h 77 [] []) (hk : z_sum (fun q : Int => ZV g x 6 h 10 [(0, (2, l0)), (1, (0, l1)), (2, (0, l2)), (3, (0, l3)), (4, (0, q))] []) E y) : ZV g x 6 h 71 [(0, (2, l0)), (1, (0, l1)), (2, (0, l2)), (3, (0, l3)), (4, (0, l4))] [] := by
  unfold M_lacks_j71 at hf
  refine z_iinc X dX12_lacks_71 4 rfl (by decide) (ls' := [(4, (0, w32 (l4 + 1))), (0, (2, l0)), (1, (0, l1)), (2, (0, l2)), (3, (0, l3))]) rfl ?_
  refine z_goto X dX12_lacks_74 rfl ?_
  cases hf
  exact z_weak [1, 2, 3, 4, 0] rfl hk
set_option maxHeartbeats 4000000 in
set_option maxRecDepth 100000 in
theorem z_M_lacks_L10 {g : GP} {x : CX} {d : Nat} (X : zX g x RX12 cX12_lacks 6 (d + 1)) (hd : 0 ≤ d) (l0 l1 l2 l3 : Int) (h : Hp) (E : (Unit) ⊕ (Unit) → Prop) (hx0 : ∀ e : Unit, E (.inl e) → ZV g x 6 h 69 [] []) (hx1 : ∀ e : Unit, E (.inr e) → ZV g x 6 h 77 [] []) (l4 : Int) (y : (Int) ⊕ ((Unit) ⊕ (Unit))) (hf : M_lacks_L10 l0 l1 l2 l3 h l4 = some y) (hk : z_sum (fun q : Int => ZV g x 6 h 10 [(0, (2, l0)), (1, (0, l1)), (2, (0, l2)), (3, (0, l3)), (4, (0, q))] []) E y) : ZV g x 6 h 10 [(0, (2, l0)), (1, (0, l1)), (2, (0, l2)), (3, (0, l3)), (4, (0, l4))] [] := by
  unfold M_lacks_L10 at hf
  refine z_iload X dX12_lacks_10 4 rfl ?_
  refine z_aload_n X dX12_lacks_12 0 rfl ?_
  refine z_iload_n X dX12_lacks_13 3 rfl ?_
  obtain ⟨g3, hf⟩ := gif hf
  obtain ⟨r14, hr14, hf⟩ := obE hf
  refine y_V1 X cv_RX12_22 dX12_lacks_14 g3 (c_M_nodesOf d (Nat.zero_le _) l0 l3 h r14 hr14) (as := [(0, l3)]) rfl rfl (Nat.le_of_ble_eq_true rfl) z00 ?_
  refine z_icmp_ge X dX12_lacks_17 rfl (fun hc17 => ?_) (fun hc17 => ?_)
  · have hf := ift hc17 hf
    cases hf
    exact z_weak [] rfl (hx1 _ hk)
  · have hf := iff' hc17 hf
    refine z_aload_n X dX12_lacks_20 0 rfl ?_
    refine y_get X fl_RX12_7 dX12_lacks_21 g3 ?_
    refine z_iload_n X dX12_lacks_24 3 rfl ?_
    obtain ⟨g4, hf⟩ := gif hf
    refine y_iald X dX12_lacks_25 g4 ?_
    refine z_iload X dX12_lacks_26 4 rfl ?_
    refine z_iadd X dX12_lacks_28 ?_
    refine z_istore X dX12_lacks_29 (by decide) (ls' := [(5, (0, w32 ((h (h l0 4) l3) + l4))), (0, (2, l0)), (1, (0, l1)), (2, (0, l2)), (3, (0, l3)), (4, (0, l4))]) rfl ?_
    refine z_aload_n X dX12_lacks_31 1 rfl ?_
    refine y_get X fl_RX12_98 dX12_lacks_32 g3 ?_
    refine z_iload X dX12_lacks_35 0 rfl ?_
    obtain ⟨g5, hf⟩ := gif hf
    refine y_iald X dX12_lacks_37 g5 ?_
    refine z_iload_n X dX12_lacks_38 3 rfl ?_
    refine z_icmp_ne X dX12_lacks_39 rfl (fun hc39 => ?_) (fun hc39 => ?_)
    · have hf := iff' hc39 hf
      exact z_weak [1, 2, 3, 4, 5] rfl (z_M_lacks_j71 X hd l0 l1 l2 l3 l4 h _ hf E hx0 hx1 hk)
    · have hf := ift hc39 hf
      refine z_aload_n X dX12_lacks_42 1 rfl ?_
      refine z_iload_n X dX12_lacks_43 2 rfl ?_
      refine z_iload X dX12_lacks_44 5 rfl ?_
      obtain ⟨r46, hr46, hf⟩ := obE hf
      refine y_V1 X cv_RX12_493 dX12_lacks_46 g3 (c_M_put d (Nat.zero_le _) l0 l1 l4 h r46 hr46) (as := [(0, l1), (0, l4)]) rfl rfl (Nat.le_of_ble_eq_true rfl) z00 ?_
      refine z_iconst X dX12_lacks_49 kc_m1 ?_
      refine z_icmp_ne X dX12_lacks_50 rfl (fun hc50 => ?_) (fun hc50 => ?_)
      · have hf := iff' hc50 hf
        exact z_weak [1, 2, 3, 4, 5] rfl (z_M_lacks_j71 X hd l0 l1 l2 l3 l4 h _ hf E hx0 hx1 hk)
      · have hf := ift hc50 hf
        refine z_iload_n X dX12_lacks_53 3 rfl ?_
        refine z_iconst X dX12_lacks_54 kc_4 ?_
        refine z_icmp_eq X dX12_lacks_55 rfl (fun hc55 => ?_) (fun hc55 => ?_)
        · have hf := ift hc55 hf
          cases hf
          exact z_weak [] rfl (hx0 _ hk)
        · have hf := iff' hc55 hf
          refine z_aload_n X dX12_lacks_58 1 rfl ?_
          refine y_get X fl_RX12_104 dX12_lacks_59 g3 ?_
          refine z_iload X dX12_lacks_62 0 rfl ?_
          obtain ⟨g6, hf⟩ := gif hf
          refine y_iald X dX12_lacks_64 g6 ?_
          refine z_iconst X dX12_lacks_65 kc_2 ?_
          refine z_icmp_ne X dX12_lacks_66 rfl (fun hc66 => ?_) (fun hc66 => ?_)
          · have hf := iff' hc66 hf
            exact z_weak [1, 2, 3, 4, 5] rfl (z_M_lacks_j71 X hd l0 l1 l2 l3 l4 h _ hf E hx0 hx1 hk)
          · have hf := ift hc66 hf
            cases hf
            exact z_weak [] rfl (hx0 _ hk)
set_option maxHeartbeats 4000000 in
set_option maxRecDepth 100000 in
theorem c_M_lacks {l : Launch} {g : GP} (d : Nat) (hd : 1 ≤ d) (l0 l1 l2 : Int) (h : Hp) (y : Int) (hf : M_lacks l0 l1 l2 h = some y) : zM l yX12_lacks cX12_lacks 6 (some .boolean) d 0 0 g 157 h [(2, l0), (0, l1), (0, l2)] 157 h (some (0, y)) := by
  obtain ⟨d, rfl⟩ : ∃ k, d = k + 1 := ⟨d - 1, by omega⟩
  replace hd : 0 ≤ d := Nat.le_of_succ_le_succ hd
  refine z_start (by decide) (Nat.le_of_ble_eq_true rfl) (fun x X hK _ _ _ hl => ?_)
  show ZV g x 6 h 0 [(0, (2, l0)), (1, (0, l1)), (2, (0, l2))] []
  unfold M_lacks at hf
  refine z_aload_n X dX12_lacks_0 0 rfl ?_
  obtain ⟨g1, hf⟩ := gif hf
  refine y_get X fl_RX12_214 dX12_lacks_1 g1 ?_
  refine z_iload_n X dX12_lacks_4 1 rfl ?_
  obtain ⟨g2, hf⟩ := gif hf
  refine y_iald X dX12_lacks_5 g2 ?_
  refine z_istore_n X dX12_lacks_6 (by decide) (ls' := [(3, (0, h (h l0 49) l1)), (0, (2, l0)), (1, (0, l1)), (2, (0, l2))]) rfl ?_
  refine z_iconst X dX12_lacks_7 kc_0 ?_
  refine z_istore X dX12_lacks_8 (by decide) (ls' := [(4, (0, 0)), (3, (0, h (h l0 49) l1)), (0, (2, l0)), (1, (0, l1)), (2, (0, l2))]) rfl ?_
  obtain ⟨q10, hq10, hf⟩ := obE hf
  have hx10_0 : ∀ e69 : Unit, (.inl e69 : (Unit) ⊕ (Unit)) = q10 → ZV g x 6 h 69 [] [] := by
    intro e69 hq
    subst hq
    dsimp only at hf
    refine z_iconst X dX12_lacks_69 kc_1 ?_
    cases hf
    exact z_zret X hK (Or.inr rfl) dX12_lacks_70
  have hx10_1 : ∀ e77 : Unit, (.inr e77 : (Unit) ⊕ (Unit)) = q10 → ZV g x 6 h 77 [] [] := by
    intro e77 hq
    subst hq
    dsimp only at hf
    refine z_iconst X dX12_lacks_77 kc_0 ?_
    cases hf
    exact z_zret X hK (Or.inl rfl) dX12_lacks_78
  exact z_weak [2, 3, 4, 1, 0] rfl (z_loop (Z := (fun q : Int => ZV g x 6 h 10 [(0, (2, l0)), (1, (0, l1)), (2, (0, l2)), (3, (0, h (h l0 49) l1)), (4, (0, q))] [])) (E := fun q => q = q10) (fun q y hb hk => z_M_lacks_L10 X hd l0 l1 l2 (h (h l0 49) l1) h (fun q => q = q10) hx10_0 hx10_1 q y hb hk) LN 0 q10 hq10 rfl)
set_option maxHeartbeats 4000000 in
set_option maxRecDepth 100000 in
theorem z_M_isSentenceTold_L15 {g : GP} {x : CX} {d : Nat} (X : zX g x RX12 cX12_isSentenceTold 2 d) (l0 : Int) (h : Hp) (E : (Unit) ⊕ (Unit) → Prop) (hx0 : ∀ e : Unit, E (.inl e) → ZV g x 2 h 41 [] []) (hx1 : ∀ e : Unit, E (.inr e) → ZV g x 2 h 49 [] []) (l1 : Int) (y : (Int) ⊕ ((Unit) ⊕ (Unit))) (hf : M_isSentenceTold_L15 l0 h l1 = some y) (hk : z_sum (fun q : Int => ZV g x 2 h 15 [(0, (2, l0)), (1, (0, q))] []) E y) : ZV g x 2 h 15 [(0, (2, l0)), (1, (0, l1))] [] := by
  unfold M_isSentenceTold_L15 at hf
  refine z_iload_n X dX12_isSentenceTold_15 1 rfl ?_
  refine z_aload_n X dX12_isSentenceTold_16 0 rfl ?_
  obtain ⟨g2, hf⟩ := gif hf
  refine y_get X fl_RX12_361 dX12_isSentenceTold_17 g2 ?_
  refine z_icmp_ge X dX12_isSentenceTold_20 rfl (fun hc20 => ?_) (fun hc20 => ?_)
  · have hf := ift hc20 hf
    cases hf
    exact z_weak [] rfl (hx1 _ hk)
  · have hf := iff' hc20 hf
    refine z_aload_n X dX12_isSentenceTold_23 0 rfl ?_
    refine y_get X fl_RX12_235 dX12_isSentenceTold_24 g2 ?_
    refine z_iload_n X dX12_isSentenceTold_27 1 rfl ?_
    obtain ⟨g3, hf⟩ := gif hf
    refine y_bald X dX12_isSentenceTold_28 g3 ?_
    refine z_bipush X dX12_isSentenceTold_29 kb_97 kc_97 ?_
    refine z_aload_n X dX12_isSentenceTold_31 0 rfl ?_
    refine y_get X fl_RX12_174 dX12_isSentenceTold_32 g2 ?_
    refine z_iload_n X dX12_isSentenceTold_35 1 rfl ?_
    obtain ⟨g4, hf⟩ := gif hf
    refine y_iald X dX12_isSentenceTold_36 g4 ?_
    refine z_iadd X dX12_isSentenceTold_37 ?_
    refine z_icmp_eq X dX12_isSentenceTold_38 rfl (fun hc38 => ?_) (fun hc38 => ?_)
    · have hf := ift hc38 hf
      refine z_iinc X dX12_isSentenceTold_43 1 rfl (by decide) (ls' := [(1, (0, w32 (l1 + 1))), (0, (2, l0))]) rfl ?_
      refine z_goto X dX12_isSentenceTold_46 rfl ?_
      cases hf
      exact z_weak [1, 0] rfl hk
    · have hf := iff' hc38 hf
      cases hf
      exact z_weak [] rfl (hx0 _ hk)
set_option maxHeartbeats 4000000 in
set_option maxRecDepth 100000 in
theorem c_M_isSentenceTold {l : Launch} {g : GP} (d : Nat) (hd : 0 ≤ d) (l0 : Int) (h : Hp) (y : Int) (hf : M_isSentenceTold l0 h = some y) : zM l yX12_isSentenceTold cX12_isSentenceTold 2 (some .boolean) d 0 0 g 157 h [(2, l0)] 157 h (some (0, y)) := by
  refine z_start (by decide) (Nat.le_of_ble_eq_true rfl) (fun x X hK _ _ _ hl => ?_)
  show ZV g x 2 h 0 [(0, (2, l0))] []
  unfold M_isSentenceTold at hf
  refine z_aload_n X dX12_isSentenceTold_0 0 rfl ?_
  obtain ⟨g1, hf⟩ := gif hf
  refine y_get X fl_RX12_361 dX12_isSentenceTold_1 g1 ?_
  refine z_aload_n X dX12_isSentenceTold_4 0 rfl ?_
  refine y_get X fl_RX12_171 dX12_isSentenceTold_5 g1 ?_
  refine z_icmp_eq X dX12_isSentenceTold_8 rfl (fun hc8 => ?_) (fun hc8 => ?_)
  · have hf := ift hc8 hf
    refine z_iconst X dX12_isSentenceTold_13 kc_0 ?_
    refine z_istore_n X dX12_isSentenceTold_14 (by decide) (ls' := [(1, (0, 0)), (0, (2, l0))]) rfl ?_
    obtain ⟨q15, hq15, hf⟩ := obE hf
    have hx15_0 : ∀ e41 : Unit, (.inl e41 : (Unit) ⊕ (Unit)) = q15 → ZV g x 2 h 41 [] [] := by
      intro e41 hq
      subst hq
      dsimp only at hf
      refine z_iconst X dX12_isSentenceTold_41 kc_0 ?_
      cases hf
      exact z_zret X hK (Or.inl rfl) dX12_isSentenceTold_42
    have hx15_1 : ∀ e49 : Unit, (.inr e49 : (Unit) ⊕ (Unit)) = q15 → ZV g x 2 h 49 [] [] := by
      intro e49 hq
      subst hq
      dsimp only at hf
      refine z_iconst X dX12_isSentenceTold_49 kc_1 ?_
      cases hf
      exact z_zret X hK (Or.inr rfl) dX12_isSentenceTold_50
    exact z_weak [1, 0] rfl (z_loop (Z := (fun q : Int => ZV g x 2 h 15 [(0, (2, l0)), (1, (0, q))] [])) (E := fun q => q = q15) (fun q y hb hk => z_M_isSentenceTold_L15 X l0 h (fun q => q = q15) hx15_0 hx15_1 q y hb hk) LN 0 q15 hq15 rfl)
  · have hf := iff' hc8 hf
    refine z_iconst X dX12_isSentenceTold_11 kc_0 ?_
    cases hf
    exact z_zret X hK (Or.inl rfl) dX12_isSentenceTold_12
set_option maxHeartbeats 4000000 in
set_option maxRecDepth 100000 in
theorem z_M_test_L34 {g : GP} {x : CX} {d : Nat} (X : zX g x RX12 cX12_test 2 (d + 1)) (hd : 4 ≤ d) (l0 : Int)  (E : (Int × Hp) ⊕ (Hp) → Prop) (hx0 : ∀ e : Int × Hp, E (.inl e) → ZV g x 2 e.2 50 [(1, (0, e.1))] []) (hx1 : ∀ e : Hp, E (.inr e) → ZV g x 2 e 94 [(0, (2, l0))] []) (l1 : Int) (h : Hp) (y : (Int × Hp) ⊕ ((Int × Hp) ⊕ (Hp))) (hf : M_test_L34 (d + 1) l0 l1 h = some y) (hk : z_sum (fun q : Int × Hp => ZV g x 2 q.2 34 [(0, (2, l0)), (1, (0, q.1))] []) E y) : ZV g x 2 h 34 [(0, (2, l0)), (1, (0, l1))] [] := by
  unfold M_test_L34 at hf
  refine z_iload_n X dX12_test_34 1 rfl ?_
  refine z_aload_n X dX12_test_35 0 rfl ?_
  obtain ⟨g2, hf⟩ := gif hf
  refine y_get X fl_RX12_535 dX12_test_36 g2 ?_
  refine z_icmp_ge X dX12_test_39 rfl (fun hc39 => ?_) (fun hc39 => ?_)
  · have hf := ift hc39 hf
    cases hf
    exact z_weak [0] rfl (hx1 _ hk)
  · have hf := iff' hc39 hf
    refine z_aload_n X dX12_test_42 0 rfl ?_
    refine z_iload_n X dX12_test_43 1 rfl ?_
    obtain ⟨r44, hr44, hf⟩ := obE hf
    refine y_V1 X cv_RX12_544 dX12_test_44 g2 (c_M_canPut d (Nat.le_trans (by decide) hd) l0 l1 h r44 hr44) (as := [(0, l1)]) rfl rfl (Nat.le_of_ble_eq_true rfl) z00 ?_
    refine z_if_ne X dX12_test_47 rfl (fun hc47 => ?_) (fun hc47 => ?_)
    · have hf := iff' hc47 hf
      refine z_aload_n X dX12_test_55 0 rfl ?_
      refine z_aload_n X dX12_test_56 0 rfl ?_
      refine y_get X fl_RX12_238 dX12_test_57 g2 ?_
      refine z_iconst X dX12_test_60 kc_3 ?_
      refine z_iload_n X dX12_test_61 1 rfl ?_
      refine z_imul X dX12_test_62 ?_
      obtain ⟨g3, hf⟩ := gif hf
      refine y_iald X dX12_test_63 g3 ?_
      refine z_aload_n X dX12_test_64 0 rfl ?_
      refine y_get X fl_RX12_238 dX12_test_65 g2 ?_
      refine z_iconst X dX12_test_68 kc_3 ?_
      refine z_iload_n X dX12_test_69 1 rfl ?_
      refine z_imul X dX12_test_70 ?_
      refine z_iconst X dX12_test_71 kc_1 ?_
      refine z_iadd X dX12_test_72 ?_
      obtain ⟨g4, hf⟩ := gif hf
      refine y_iald X dX12_test_73 g4 ?_
      refine z_aload_n X dX12_test_74 0 rfl ?_
      refine y_get X fl_RX12_238 dX12_test_75 g2 ?_
      refine z_iconst X dX12_test_78 kc_3 ?_
      refine z_iload_n X dX12_test_79 1 rfl ?_
      refine z_imul X dX12_test_80 ?_
      refine z_iconst X dX12_test_81 kc_2 ?_
      refine z_iadd X dX12_test_82 ?_
      obtain ⟨g5, hf⟩ := gif hf
      refine y_iald X dX12_test_83 g5 ?_
      obtain ⟨r84, hr84, hf⟩ := obE hf
      refine y_V1 X cv_RX12_460 dX12_test_84 g2 (c_M_newStep d (Nat.zero_le _) l0 (h (h l0 59) (w32 (3 * l1))) (h (h l0 59) (w32 ((w32 (3 * l1)) + 1))) (h (h l0 59) (w32 ((w32 (3 * l1)) + 2))) h r84 hr84) (as := [(0, h (h l0 59) (w32 (3 * l1))), (0, h (h l0 59) (w32 ((w32 (3 * l1)) + 1))), (0, h (h l0 59) (w32 ((w32 (3 * l1)) + 2)))]) rfl rfl (Nat.le_of_ble_eq_true rfl) z00 ?_
      refine z_pop X ne0 dX12_test_87 ?_
      refine z_iinc X dX12_test_88 1 rfl (by decide) (ls' := [(1, (0, w32 (l1 + 1))), (0, (2, l0))]) rfl ?_
      refine z_goto X dX12_test_91 rfl ?_
      cases hf
      exact z_weak [1, 0] rfl hk
    · have hf := ift hc47 hf
      cases hf
      exact z_weak [1] rfl (hx0 _ hk)
set_option maxHeartbeats 4000000 in
set_option maxRecDepth 100000 in
theorem z_M_test_L96 {g : GP} {x : CX} {d : Nat} (X : zX g x RX12 cX12_test 2 (d + 1)) (hd : 4 ≤ d) (l0 : Int) (h : Hp) (E : (Int) ⊕ (Unit) → Prop) (hx0 : ∀ e : Int, E (.inl e) → ZV g x 2 h 113 [(1, (0, e))] []) (hx1 : ∀ e : Unit, E (.inr e) → ZV g x 2 h 125 [(0, (2, l0))] []) (l1 : Int) (y : (Int) ⊕ ((Int) ⊕ (Unit))) (hf : M_test_L96 (d + 1) l0 h l1 = some y) (hk : z_sum (fun q : Int => ZV g x 2 h 96 [(0, (2, l0)), (1, (0, q))] []) E y) : ZV g x 2 h 96 [(0, (2, l0)), (1, (0, l1))] [] := by
  unfold M_test_L96 at hf
  refine z_iload_n X dX12_test_96 1 rfl ?_
  refine z_aload_n X dX12_test_97 0 rfl ?_
  obtain ⟨g6, hf⟩ := gif hf
  refine y_get X fl_RX12_535 dX12_test_98 g6 ?_
  refine z_icmp_ge X dX12_test_101 rfl (fun hc101 => ?_) (fun hc101 => ?_)
  · have hf := ift hc101 hf
    cases hf
    exact z_weak [0] rfl (hx1 _ hk)
  · have hf := iff' hc101 hf
    refine z_aload_n X dX12_test_104 0 rfl ?_
    refine z_iload_n X dX12_test_105 1 rfl ?_
    refine z_iconst X dX12_test_106 kc_4 ?_
    obtain ⟨r107, hr107, hf⟩ := obE hf
    refine y_V1 X cv_RX12_547 dX12_test_107 g6 (c_M_lacks d (Nat.le_trans (by decide) hd) l0 l1 4 h r107 hr107) (as := [(0, l1), (0, 4)]) rfl rfl (Nat.le_of_ble_eq_true rfl) z00 ?_
    refine z_if_eq X dX12_test_110 rfl (fun hc110 => ?_) (fun hc110 => ?_)
    · have hf := ift hc110 hf
      refine z_iinc X dX12_test_119 1 rfl (by decide) (ls' := [(1, (0, w32 (l1 + 1))), (0, (2, l0))]) rfl ?_
      refine z_goto X dX12_test_122 rfl ?_
      cases hf
      exact z_weak [1, 0] rfl hk
    · have hf := iff' hc110 hf
      cases hf
      exact z_weak [1] rfl (hx0 _ hk)
set_option maxHeartbeats 4000000 in
set_option maxRecDepth 100000 in
theorem z_M_test_L127 {g : GP} {x : CX} {d : Nat} (X : zX g x RX12 cX12_test 2 (d + 1)) (hd : 4 ≤ d) (l0 : Int) (h : Hp) (E : (Int) ⊕ (Unit) → Prop) (hx0 : ∀ e : Int, E (.inl e) → ZV g x 2 h 144 [(1, (0, e))] []) (hx1 : ∀ e : Unit, E (.inr e) → ZV g x 2 h 156 [(0, (2, l0))] []) (l1 : Int) (y : (Int) ⊕ ((Int) ⊕ (Unit))) (hf : M_test_L127 (d + 1) l0 h l1 = some y) (hk : z_sum (fun q : Int => ZV g x 2 h 127 [(0, (2, l0)), (1, (0, q))] []) E y) : ZV g x 2 h 127 [(0, (2, l0)), (1, (0, l1))] [] := by
  unfold M_test_L127 at hf
  refine z_iload_n X dX12_test_127 1 rfl ?_
  refine z_aload_n X dX12_test_128 0 rfl ?_
  obtain ⟨g7, hf⟩ := gif hf
  refine y_get X fl_RX12_535 dX12_test_129 g7 ?_
  refine z_icmp_ge X dX12_test_132 rfl (fun hc132 => ?_) (fun hc132 => ?_)
  · have hf := ift hc132 hf
    cases hf
    exact z_weak [0] rfl (hx1 _ hk)
  · have hf := iff' hc132 hf
    refine z_aload_n X dX12_test_135 0 rfl ?_
    refine z_iload_n X dX12_test_136 1 rfl ?_
    refine z_iconst X dX12_test_137 kc_0 ?_
    obtain ⟨r138, hr138, hf⟩ := obE hf
    refine y_V1 X cv_RX12_547 dX12_test_138 g7 (c_M_lacks d (Nat.le_trans (by decide) hd) l0 l1 0 h r138 hr138) (as := [(0, l1), (0, 0)]) rfl rfl (Nat.le_of_ble_eq_true rfl) z00 ?_
    refine z_if_eq X dX12_test_141 rfl (fun hc141 => ?_) (fun hc141 => ?_)
    · have hf := ift hc141 hf
      refine z_iinc X dX12_test_150 1 rfl (by decide) (ls' := [(1, (0, w32 (l1 + 1))), (0, (2, l0))]) rfl ?_
      refine z_goto X dX12_test_153 rfl ?_
      cases hf
      exact z_weak [1, 0] rfl hk
    · have hf := iff' hc141 hf
      cases hf
      exact z_weak [1] rfl (hx0 _ hk)
set_option maxHeartbeats 4000000 in
set_option maxRecDepth 100000 in
theorem c_M_test {l : Launch} {g : GP} (d : Nat) (hd : 5 ≤ d) (l0 : Int) (h : Hp) (y : Int × Hp) (hf : M_test d l0 h = some y) : zM l yX12_test cX12_test 2 (some .int) d 0 0 g 157 h [(2, l0)] 157 y.2 (some (0, y.1)) := by
  obtain ⟨d, rfl⟩ : ∃ k, d = k + 1 := ⟨d - 1, by omega⟩
  replace hd : 4 ≤ d := Nat.le_of_succ_le_succ hd
  refine z_start (by decide) (Nat.le_of_ble_eq_true rfl) (fun x X hK _ _ _ hl => ?_)
  show ZV g x 2 h 0 [(0, (2, l0))] []
  unfold M_test at hf
  refine z_aload_n X dX12_test_0 0 rfl ?_
  refine z_aload_n X dX12_test_1 0 rfl ?_
  obtain ⟨g1, hf⟩ := gif hf
  refine y_get X fl_RX12_32 dX12_test_2 g1 ?_
  refine y_put X fl_RX12_42 dX12_test_5 g1 rfl (by decide) ?_
  let h_1 : Hp := hput h l0 22 (h l0 20)
  refine z_aload_n X dX12_test_8 0 rfl ?_
  refine z_iconst X dX12_test_9 kc_0 ?_
  refine y_put X fl_RX12_32 dX12_test_10 g1 rfl (by decide) ?_
  let h_2 : Hp := hput h_1 l0 20 0
  refine z_aload_n X dX12_test_13 0 rfl ?_
  obtain ⟨r14, hr14, hf⟩ := obE hf
  refine y_V0 X cv_RX12_541 dX12_test_14 g1 (c_M_hears d (Nat.le_trans (by decide) hd) l0 h_2 r14 hr14) (as := []) rfl rfl (Nat.le_of_ble_eq_true rfl) z00 ?_
  refine z_aload_n X dX12_test_17 0 rfl ?_
  refine y_get X fl_RX12_529 dX12_test_18 g1 ?_
  refine z_if_ne X dX12_test_21 rfl (fun hc21 => ?_) (fun hc21 => ?_)
  · have hf := iff' hc21 hf
    refine z_aload_n X dX12_test_27 0 rfl ?_
    refine z_iconst X dX12_test_28 kc_0 ?_
    refine y_put X fl_RX12_450 dX12_test_29 g1 rfl (by decide) ?_
    let h_3 : Hp := hput r14 l0 48 0
    refine z_iconst X dX12_test_32 kc_0 ?_
    refine z_istore_n X dX12_test_33 (by decide) (ls' := [(1, (0, 0)), (0, (2, l0))]) rfl ?_
    obtain ⟨q34, hq34, hf⟩ := obE hf
    have hx34_0 : ∀ e50 : Int × Hp, (.inl e50 : (Int × Hp) ⊕ (Hp)) = q34 → ZV g x 2 e50.2 50 [(1, (0, e50.1))] [] := by
      intro e50 hq
      subst hq
      dsimp only at hf
      refine z_bipush X dX12_test_50 kb_m100 kc_m100 ?_
      refine z_iload_n X dX12_test_52 0 rfl ?_
      refine z_isub X dX12_test_53 ?_
      cases hf
      exact z_iret X hK dX12_test_54
    have hx34_1 : ∀ e94 : Hp, (.inr e94 : (Int × Hp) ⊕ (Hp)) = q34 → ZV g x 2 e94 94 [(0, (2, l0))] [] := by
      intro e94 hq
      subst hq
      dsimp only at hf
      refine z_iconst X dX12_test_94 kc_0 ?_
      refine z_istore_n X dX12_test_95 (by decide) (ls' := [(1, (0, 0)), (0, (2, l0))]) rfl ?_
      obtain ⟨q96, hq96, hf⟩ := obE hf
      have hx96_0 : ∀ e113 : Int, (.inl e113 : (Int) ⊕ (Unit)) = q96 → ZV g x 2 e94 113 [(1, (0, e113))] [] := by
        intro e113 hq
        subst hq
        dsimp only at hf
        refine z_sipush X dX12_test_113 ks_m200 kc_m200 ?_
        refine z_iload_n X dX12_test_116 0 rfl ?_
        refine z_isub X dX12_test_117 ?_
        cases hf
        exact z_iret X hK dX12_test_118
      have hx96_1 : ∀ e125 : Unit, (.inr e125 : (Int) ⊕ (Unit)) = q96 → ZV g x 2 e94 125 [(0, (2, l0))] [] := by
        intro e125 hq
        subst hq
        dsimp only at hf
        refine z_iconst X dX12_test_125 kc_0 ?_
        refine z_istore_n X dX12_test_126 (by decide) (ls' := [(1, (0, 0)), (0, (2, l0))]) rfl ?_
        obtain ⟨q127, hq127, hf⟩ := obE hf
        have hx127_0 : ∀ e144 : Int, (.inl e144 : (Int) ⊕ (Unit)) = q127 → ZV g x 2 e94 144 [(1, (0, e144))] [] := by
          intro e144 hq
          subst hq
          dsimp only at hf
          refine z_sipush X dX12_test_144 ks_m300 kc_m300 ?_
          refine z_iload_n X dX12_test_147 0 rfl ?_
          refine z_isub X dX12_test_148 ?_
          cases hf
          exact z_iret X hK dX12_test_149
        have hx127_1 : ∀ e156 : Unit, (.inr e156 : (Int) ⊕ (Unit)) = q127 → ZV g x 2 e94 156 [(0, (2, l0))] [] := by
          intro e156 hq
          subst hq
          dsimp only at hf
          refine z_aload_n X dX12_test_156 0 rfl ?_
          refine z_iconst X dX12_test_157 kc_0 ?_
          refine y_put X fl_RX12_361 dX12_test_158 g1 rfl (by decide) ?_
          let h_4 : Hp := hput e94 l0 57 0
          refine z_aload_n X dX12_test_161 0 rfl ?_
          refine z_iconst X dX12_test_162 kc_1 ?_
          refine y_putZ X fl_RX12_505 dX12_test_163 g1 (Or.inr rfl) ?_
          let h_5 : Hp := hput h_4 l0 58 1
          refine z_aload_n X dX12_test_166 0 rfl ?_
          refine z_iconst X dX12_test_167 kc_0 ?_
          refine z_iconst X dX12_test_168 kc_0 ?_
          obtain ⟨r169, hr169, hf⟩ := obE hf
          refine y_V0 X cv_RX12_512 dX12_test_169 g1 (c_M_tellsAbove d l0 0 0 h_5 r169 hr169) (as := [(0, 0), (0, 0)]) rfl rfl (Nat.le_of_ble_eq_true rfl) z00 ?_
          refine z_aload_n X dX12_test_172 0 rfl ?_
          obtain ⟨r173, hr173, hf⟩ := obE hf
          refine y_V1 X cv_RX12_550 dX12_test_173 g1 (c_M_isSentenceTold d (Nat.zero_le _) l0 r169 r173 hr173) (as := []) rfl rfl (Nat.le_of_ble_eq_true rfl) z00 ?_
          refine z_if_eq X dX12_test_176 rfl (fun hc176 => ?_) (fun hc176 => ?_)
          · rw [if_pos hc176] at hf
            refine z_iconst X dX12_test_183 kc_0 ?_
            cases hf
            exact z_iret X hK dX12_test_184
          · rw [if_neg hc176] at hf
            refine z_iconst X dX12_test_179 kc_1 ?_
            refine z_goto X dX12_test_180 rfl ?_
            cases hf
            exact z_iret X hK dX12_test_184
        exact z_weak [1, 0] rfl (z_loop (Z := (fun q : Int => ZV g x 2 e94 127 [(0, (2, l0)), (1, (0, q))] [])) (E := fun q => q = q127) (fun q y hb hk => z_M_test_L127 X hd l0 e94 (fun q => q = q127) hx127_0 hx127_1 q y hb hk) LN 0 q127 hq127 rfl)
      exact z_weak [1, 0] rfl (z_loop (Z := (fun q : Int => ZV g x 2 e94 96 [(0, (2, l0)), (1, (0, q))] [])) (E := fun q => q = q96) (fun q y hb hk => z_M_test_L96 X hd l0 e94 (fun q => q = q96) hx96_0 hx96_1 q y hb hk) LN 0 q96 hq96 rfl)
    exact z_weak [1, 0] rfl (z_loop (Z := (fun q : Int × Hp => ZV g x 2 q.2 34 [(0, (2, l0)), (1, (0, q.1))] [])) (E := fun q => q = q34) (fun q y hb hk => z_M_test_L34 X hd l0 (fun q => q = q34) hx34_0 hx34_1 q.1 q.2 y hb hk) LN (0, h_3) q34 hq34 rfl)
  · have hf := ift hc21 hf
    refine z_bipush X dX12_test_24 kb_m4 kc_m4 ?_
    cases hf
    exact z_iret X hK dX12_test_26
