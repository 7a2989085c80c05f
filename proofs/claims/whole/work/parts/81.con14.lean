set_option maxHeartbeats 4000000 in
set_option maxRecDepth 100000 in
theorem z_M_readTree_j125 {g : GP} {x : CX} {d : Nat} (X : zX g x RX12 cX12_readTree 1 (d + 1)) (hd : 3 ≤ d) (l0 : Int) (h : Hp) (y : Hp) (hf : M_readTree_j125 (d + 1) l0 h = some y) (hK : zE g x none 0 0 157 y none) : ZV g x 1 h 125 [(0, (2, l0))] [] := by
  unfold M_readTree_j125 at hf
  refine z_aload_n X dX12_readTree_125 0 rfl ?_
  obtain ⟨g5, hf⟩ := gif hf
  refine y_get X fl_RX12_7 dX12_readTree_126 g5 ?_
  refine z_bipush X dX12_readTree_129 kb_9 kc_9 ?_
  refine z_aload_n X dX12_readTree_131 0 rfl ?_
  refine y_get X fl_RX12_137 dX12_readTree_132 g5 ?_
  refine z_iadd X dX12_readTree_135 ?_
  refine z_aload_n X dX12_readTree_136 0 rfl ?_
  refine y_get X fl_RX12_95 dX12_readTree_137 g5 ?_
  obtain ⟨g6, hf⟩ := gif hf
  refine y_iast X dX12_readTree_140 g6 ?_
  let h_3 : Hp := hput h (h l0 4) (w32 (9 + (h l0 11))) (h l0 29)
  refine z_aload_n X dX12_readTree_141 0 rfl ?_
  refine z_dup X ne2 dX12_readTree_142 ?_
  refine y_get X fl_RX12_137 dX12_readTree_143 g5 ?_
  refine z_iconst X dX12_readTree_146 kc_1 ?_
  refine z_iadd X dX12_readTree_147 ?_
  refine y_put X fl_RX12_137 dX12_readTree_148 g5 rfl (by decide) ?_
  let h_4 : Hp := hput h_3 l0 11 (w32 ((h_3 l0 11) + 1))
  cases hf
  exact z_vret X hK dX12_readTree_151
set_option maxHeartbeats 4000000 in
set_option maxRecDepth 100000 in
theorem z_M_readTree_j94 {g : GP} {x : CX} {d : Nat} (X : zX g x RX12 cX12_readTree 1 (d + 1)) (hd : 3 ≤ d) (l0 : Int) (h : Hp) (y : Hp) (hf : M_readTree_j94 (d + 1) l0 h = some y) (hK : zE g x none 0 0 157 y none) : ZV g x 1 h 94 [(0, (2, l0))] [] := by
  unfold M_readTree_j94 at hf
  refine z_aload_n X dX12_readTree_94 0 rfl ?_
  refine z_bipush X dX12_readTree_95 kb_41 kc_41 ?_
  obtain ⟨g4, hf⟩ := gif hf
  obtain ⟨r97, hr97, hf⟩ := obE hf
  refine y_V0 X cv_RX12_126 dX12_readTree_97 g4 (c_M_takesSign d (Nat.le_trans (by decide) hd) l0 41 h r97 hr97) (as := [(0, 41)]) rfl rfl (Nat.le_of_ble_eq_true rfl) z00 ?_
  refine z_aload_n X dX12_readTree_100 0 rfl ?_
  obtain ⟨r101, hr101, hf⟩ := obE hf
  refine y_V1 X cv_RX12_75 dX12_readTree_101 g4 (c_M_good d (Nat.zero_le _) l0 r97 r101 hr101) (as := []) rfl rfl (Nat.le_of_ble_eq_true rfl) z00 ?_
  refine z_if_eq X dX12_readTree_104 rfl (fun hc104 => ?_) (fun hc104 => ?_)
  · have hf := ift hc104 hf
    exact (z_M_readTree_j125 X hd l0 r97 _ hf hK)
  · have hf := iff' hc104 hf
    refine z_aload_n X dX12_readTree_107 0 rfl ?_
    refine z_bipush X dX12_readTree_108 kb_59 kc_59 ?_
    obtain ⟨r110, hr110, hf⟩ := obE hf
    refine y_V1 X cv_RX12_82 dX12_readTree_110 g4 (c_M_isSign d (Nat.le_trans (by decide) hd) l0 59 r97 r110 hr110) (as := [(0, 59)]) rfl rfl (Nat.le_of_ble_eq_true rfl) z00 ?_
    refine z_if_ne X dX12_readTree_113 rfl (fun hc113 => ?_) (fun hc113 => ?_)
    · have hf := iff' hc113 hf
      exact (z_M_readTree_j125 X hd l0 r97 _ hf hK)
    · have hf := ift hc113 hf
      refine z_aload_n X dX12_readTree_116 0 rfl ?_
      refine z_iconst X dX12_readTree_117 kc_1 ?_
      refine z_aload_n X dX12_readTree_118 0 rfl ?_
      refine y_get X fl_RX12_51 dX12_readTree_119 g4 ?_
      obtain ⟨r122, hr122, hf⟩ := obE hf
      refine y_V0 X cv_RX12_85 dX12_readTree_122 g4 (c_M_errsAt d (Nat.le_trans (by decide) hd) l0 1 (r97 l0 24) r97 r122 hr122) (as := [(0, 1), (0, r97 l0 24)]) rfl rfl (Nat.le_of_ble_eq_true rfl) z00 ?_
      exact (z_M_readTree_j125 X hd l0 r122 _ hf hK)
set_option maxHeartbeats 4000000 in
set_option maxRecDepth 100000 in
theorem z_M_readTree_j62 {g : GP} {x : CX} {d : Nat} (X : zX g x RX12 cX12_readTree 1 (d + 1)) (hd : 3 ≤ d) (l0 : Int) (h : Hp) (y : Hp) (hf : M_readTree_j62 (d + 1) l0 h = some y) (hK : zE g x none 0 0 157 y none) : ZV g x 1 h 62 [(0, (2, l0))] [] := by
  unfold M_readTree_j62 at hf
  refine z_aload_n X dX12_readTree_62 0 rfl ?_
  obtain ⟨g3, hf⟩ := gif hf
  obtain ⟨r63, hr63, hf⟩ := obE hf
  refine y_V1 X cv_RX12_75 dX12_readTree_63 g3 (c_M_good d (Nat.zero_le _) l0 h r63 hr63) (as := []) rfl rfl (Nat.le_of_ble_eq_true rfl) z00 ?_
  refine z_if_eq X dX12_readTree_66 rfl (fun hc66 => ?_) (fun hc66 => ?_)
  · have hf := ift hc66 hf
    exact (z_M_readTree_j94 X hd l0 h _ hf hK)
  · have hf := iff' hc66 hf
    refine z_aload_n X dX12_readTree_69 0 rfl ?_
    refine z_bipush X dX12_readTree_70 kb_41 kc_41 ?_
    obtain ⟨r72, hr72, hf⟩ := obE hf
    refine y_V1 X cv_RX12_82 dX12_readTree_72 g3 (c_M_isSign d (Nat.le_trans (by decide) hd) l0 41 h r72 hr72) (as := [(0, 41)]) rfl rfl (Nat.le_of_ble_eq_true rfl) z00 ?_
    refine z_if_eq X dX12_readTree_75 rfl (fun hc75 => ?_) (fun hc75 => ?_)
    · have hf := ift hc75 hf
      exact (z_M_readTree_j94 X hd l0 h _ hf hK)
    · have hf := iff' hc75 hf
      refine z_aload_n X dX12_readTree_78 0 rfl ?_
      obtain ⟨r79, hr79, hf⟩ := obE hf
      refine y_V1 X cv_RX12_140 dX12_readTree_79 g3 (c_M_isLettered d (Nat.zero_le _) l0 h r79 hr79) (as := []) rfl rfl (Nat.le_of_ble_eq_true rfl) z00 ?_
      refine z_if_ne X dX12_readTree_82 rfl (fun hc82 => ?_) (fun hc82 => ?_)
      · have hf := iff' hc82 hf
        exact (z_M_readTree_j94 X hd l0 h _ hf hK)
      · have hf := ift hc82 hf
        refine z_aload_n X dX12_readTree_85 0 rfl ?_
        refine z_iconst X dX12_readTree_86 kc_4 ?_
        refine z_aload_n X dX12_readTree_87 0 rfl ?_
        refine y_get X fl_RX12_51 dX12_readTree_88 g3 ?_
        obtain ⟨r91, hr91, hf⟩ := obE hf
        refine y_V0 X cv_RX12_85 dX12_readTree_91 g3 (c_M_errsAt d (Nat.le_trans (by decide) hd) l0 4 (h l0 24) h r91 hr91) (as := [(0, 4), (0, h l0 24)]) rfl rfl (Nat.le_of_ble_eq_true rfl) z00 ?_
        exact (z_M_readTree_j94 X hd l0 r91 _ hf hK)
set_option maxHeartbeats 4000000 in
set_option maxRecDepth 100000 in
theorem z_M_readTree_j18 {g : GP} {x : CX} {d : Nat} (X : zX g x RX12 cX12_readTree 1 (d + 1)) (hd : 3 ≤ d) (l0 : Int) (h : Hp) (y : Hp) (hf : M_readTree_j18 (d + 1) l0 h = some y) (hK : zE g x none 0 0 157 y none) : ZV g x 1 h 18 [(0, (2, l0))] [] := by
  unfold M_readTree_j18 at hf
  refine z_aload_n X dX12_readTree_18 0 rfl ?_
  obtain ⟨g2, hf⟩ := gif hf
  obtain ⟨r19, hr19, hf⟩ := obE hf
  refine y_V1 X cv_RX12_75 dX12_readTree_19 g2 (c_M_good d (Nat.zero_le _) l0 h r19 hr19) (as := []) rfl rfl (Nat.le_of_ble_eq_true rfl) z00 ?_
  refine z_if_ne X dX12_readTree_22 rfl (fun hc22 => ?_) (fun hc22 => ?_)
  · have hf := iff' hc22 hf
    refine z_aload_n X dX12_readTree_26 0 rfl ?_
    refine z_aload_n X dX12_readTree_27 0 rfl ?_
    refine y_get X fl_RX12_92 dX12_readTree_28 g2 ?_
    refine y_put X fl_RX12_95 dX12_readTree_31 g2 rfl (by decide) ?_
    let h_1 : Hp := hput h l0 29 (h l0 12)
    refine z_aload_n X dX12_readTree_34 0 rfl ?_
    refine z_iconst X dX12_readTree_35 kc_m1 ?_
    refine y_put X fl_RX12_134 dX12_readTree_36 g2 rfl (by decide) ?_
    let h_2 : Hp := hput h_1 l0 30 ((-1))
    refine z_aload_n X dX12_readTree_39 0 rfl ?_
    obtain ⟨r40, hr40, hf⟩ := obE hf
    refine y_V0 X cv_RX12_89 dX12_readTree_40 g2 (c_M_advance d (Nat.le_trans (by decide) hd) l0 h_2 r40 hr40) (as := []) rfl rfl (Nat.le_of_ble_eq_true rfl) z00 ?_
    refine z_aload_n X dX12_readTree_43 0 rfl ?_
    refine z_bipush X dX12_readTree_44 kb_40 kc_40 ?_
    obtain ⟨r46, hr46, hf⟩ := obE hf
    refine y_V0 X cv_RX12_126 dX12_readTree_46 g2 (c_M_takesSign d (Nat.le_trans (by decide) hd) l0 40 r40 r46 hr46) (as := [(0, 40)]) rfl rfl (Nat.le_of_ble_eq_true rfl) z00 ?_
    refine z_aload_n X dX12_readTree_49 0 rfl ?_
    obtain ⟨r50, hr50, hf⟩ := obE hf
    refine y_V1 X cv_RX12_75 dX12_readTree_50 g2 (c_M_good d (Nat.zero_le _) l0 r46 r50 hr50) (as := []) rfl rfl (Nat.le_of_ble_eq_true rfl) z00 ?_
    refine z_if_eq X dX12_readTree_53 rfl (fun hc53 => ?_) (fun hc53 => ?_)
    · have hf := ift hc53 hf
      exact (z_M_readTree_j62 X hd l0 r46 _ hf hK)
    · have hf := iff' hc53 hf
      refine z_aload_n X dX12_readTree_56 0 rfl ?_
      refine z_iconst X dX12_readTree_57 kc_m1 ?_
      obtain ⟨r58, hr58, hf⟩ := obE hf
      refine y_V1 X cv_RX12_123 dX12_readTree_58 g2 (c_M_readBranch d l0 ((-1)) r46 r58 hr58) (as := [(0, (-1))]) rfl rfl (Nat.le_of_ble_eq_true rfl) z00 ?_
      refine z_pop X ne0 dX12_readTree_61 ?_
      exact (z_M_readTree_j62 X hd l0 r58.2 _ hf hK)
  · have hf := ift hc22 hf
    cases hf
    exact z_vret X hK dX12_readTree_25
set_option maxHeartbeats 4000000 in
set_option maxRecDepth 100000 in
theorem c_M_readTree {l : Launch} {g : GP} (d : Nat) (hd : 4 ≤ d) (l0 : Int) (h : Hp) (y : Hp) (hf : M_readTree d l0 h = some y) : zM l yX12_readTree cX12_readTree 1 none d 0 0 g 157 h [(2, l0)] 157 y none := by
  obtain ⟨d, rfl⟩ : ∃ k, d = k + 1 := ⟨d - 1, by omega⟩
  replace hd : 3 ≤ d := Nat.le_of_succ_le_succ hd
  refine z_start (by decide) (Nat.le_of_ble_eq_true rfl) (fun x X hK _ _ _ hl => ?_)
  show ZV g x 1 h 0 [(0, (2, l0))] []
  unfold M_readTree at hf
  refine z_aload_n X dX12_readTree_0 0 rfl ?_
  obtain ⟨g1, hf⟩ := gif hf
  refine y_get X fl_RX12_137 dX12_readTree_1 g1 ?_
  refine z_bipush X dX12_readTree_4 kb_8 kc_8 ?_
  refine z_icmp_ne X dX12_readTree_6 rfl (fun hc6 => ?_) (fun hc6 => ?_)
  · have hf := iff' hc6 hf
    exact (z_M_readTree_j18 X hd l0 h _ hf hK)
  · have hf := ift hc6 hf
    refine z_aload_n X dX12_readTree_9 0 rfl ?_
    refine z_iconst X dX12_readTree_10 kc_3 ?_
    refine z_aload_n X dX12_readTree_11 0 rfl ?_
    refine y_get X fl_RX12_51 dX12_readTree_12 g1 ?_
    obtain ⟨r15, hr15, hf⟩ := obE hf
    refine y_V0 X cv_RX12_85 dX12_readTree_15 g1 (c_M_errsAt d (Nat.le_trans (by decide) hd) l0 3 (h l0 24) h r15 hr15) (as := [(0, 3), (0, h l0 24)]) rfl rfl (Nat.le_of_ble_eq_true rfl) z00 ?_
    exact (z_M_readTree_j18 X hd l0 r15 _ hf hK)
set_option maxHeartbeats 4000000 in
set_option maxRecDepth 100000 in
theorem z_M_laysTree_j174 {g : GP} {x : CX} {d : Nat} (X : zX g x RX12 cX12_laysTree 5 d) (l0 l1 l2 l3 : Int) (h : Hp) (y : (Int × Hp) ⊕ (Hp)) (hf : M_laysTree_j174 l0 l1 l2 l3 h = some y) (E : Hp → Prop) (hx0 : ∀ e : Hp, E (e) → ZV g x 5 e 180 [(0, (2, l0)), (1, (0, l1)), (2, (0, l2))] []) (hk : z_sum (fun q : Int × Hp => ZV g x 5 q.2 93 [(0, (2, l0)), (1, (0, l1)), (2, (0, l2)), (3, (0, q.1))] []) E y) : ZV g x 5 h 174 [(0, (2, l0)), (1, (0, l1)), (2, (0, l2)), (3, (0, l3))] [] := by
  unfold M_laysTree_j174 at hf
  refine z_iinc X dX12_laysTree_174 3 rfl (by decide) (ls' := [(3, (0, w32 (l3 + 1))), (0, (2, l0)), (1, (0, l1)), (2, (0, l2))]) rfl ?_
  refine z_goto X dX12_laysTree_177 rfl ?_
  cases hf
  exact z_weak [1, 2, 3, 0] rfl hk
set_option maxHeartbeats 4000000 in
set_option maxRecDepth 100000 in
theorem z_M_laysTree_j173 {g : GP} {x : CX} {d : Nat} (X : zX g x RX12 cX12_laysTree 5 d) (l0 l1 l2 l3 s0 s1 s2 : Int) (h : Hp) (y : (Int × Hp) ⊕ (Hp)) (hf : M_laysTree_j173 l0 l1 l2 l3 s0 s1 s2 h = some y) (E : Hp → Prop) (hx0 : ∀ e : Hp, E (e) → ZV g x 5 e 180 [(0, (2, l0)), (1, (0, l1)), (2, (0, l2))] []) (hk : z_sum (fun q : Int × Hp => ZV g x 5 q.2 93 [(0, (2, l0)), (1, (0, l1)), (2, (0, l2)), (3, (0, q.1))] []) E y) : ZV g x 5 h 173 [(0, (2, l0)), (1, (0, l1)), (2, (0, l2)), (3, (0, l3))] [(0, s0), (0, s1), (2, s2)] := by
  unfold M_laysTree_j173 at hf
  obtain ⟨g21, hf⟩ := gif hf
  obtain ⟨g22, hf⟩ := gif hf
  refine y_zast X dX12_laysTree_173 g21 g22 ?_
  let h_8 : Hp := hput h s2 s1 s0
  exact (z_M_laysTree_j174 X l0 l1 l2 l3 h_8 _ hf E hx0 hk)
set_option maxHeartbeats 4000000 in
set_option maxRecDepth 100000 in
theorem z_M_laysTree_j168 {g : GP} {x : CX} {d : Nat} (X : zX g x RX12 cX12_laysTree 5 d) (l0 l1 l2 l3 s0 s1 : Int) (h : Hp) (y : (Int × Hp) ⊕ (Hp)) (hf : M_laysTree_j168 l0 l1 l2 l3 s0 s1 h = some y) (E : Hp → Prop) (hx0 : ∀ e : Hp, E (e) → ZV g x 5 e 180 [(0, (2, l0)), (1, (0, l1)), (2, (0, l2))] []) (hk : z_sum (fun q : Int × Hp => ZV g x 5 q.2 93 [(0, (2, l0)), (1, (0, l1)), (2, (0, l2)), (3, (0, q.1))] []) E y) : ZV g x 5 h 168 [(0, (2, l0)), (1, (0, l1)), (2, (0, l2)), (3, (0, l3))] [(0, s0), (2, s1)] := by
  unfold M_laysTree_j168 at hf
  refine z_iconst X dX12_laysTree_168 kc_1 ?_
  refine z_goto X dX12_laysTree_169 rfl ?_
  exact (z_M_laysTree_j173 X l0 l1 l2 l3 1 s0 s1 h _ hf E hx0 hk)
set_option maxHeartbeats 4000000 in
set_option maxRecDepth 100000 in
theorem z_M_laysTree_j117 {g : GP} {x : CX} {d : Nat} (X : zX g x RX12 cX12_laysTree 5 d) (l0 l1 l2 l3 s0 : Int) (h : Hp) (y : (Int × Hp) ⊕ (Hp)) (hf : M_laysTree_j117 l0 l1 l2 l3 s0 h = some y) (E : Hp → Prop) (hx0 : ∀ e : Hp, E (e) → ZV g x 5 e 180 [(0, (2, l0)), (1, (0, l1)), (2, (0, l2))] []) (hk : z_sum (fun q : Int × Hp => ZV g x 5 q.2 93 [(0, (2, l0)), (1, (0, l1)), (2, (0, l2)), (3, (0, q.1))] []) E y) : ZV g x 5 h 117 [(0, (2, l0)), (1, (0, l1)), (2, (0, l2)), (3, (0, l3))] [(0, s0)] := by
  unfold M_laysTree_j117 at hf
  refine z_istore X dX12_laysTree_117 (by decide) (ls' := [(4, (0, s0)), (0, (2, l0)), (1, (0, l1)), (2, (0, l2)), (3, (0, l3))]) rfl ?_
  refine z_iload X dX12_laysTree_119 0 rfl ?_
  refine z_iconst X dX12_laysTree_121 kc_m1 ?_
  refine z_icmp_ne X dX12_laysTree_122 rfl (fun hc122 => ?_) (fun hc122 => ?_)
  · have hf := iff' hc122 hf
    refine z_aload_n X dX12_laysTree_128 1 rfl ?_
    obtain ⟨g17, hf⟩ := gif hf
    refine y_get X fl_RX12_164 dX12_laysTree_129 g17 ?_
    refine z_iload_n X dX12_laysTree_132 3 rfl ?_
    refine z_dup2 X ne0 ne2 dX12_laysTree_133 ?_
    obtain ⟨g18, hf⟩ := gif hf
    refine y_iald X dX12_laysTree_134 g18 ?_
    refine z_aload_n X dX12_laysTree_135 1 rfl ?_
    refine y_get X fl_RX12_164 dX12_laysTree_136 g17 ?_
    refine z_iload X dX12_laysTree_139 0 rfl ?_
    obtain ⟨g19, hf⟩ := gif hf
    refine y_iald X dX12_laysTree_141 g19 ?_
    refine z_iadd X dX12_laysTree_142 ?_
    refine y_iast X dX12_laysTree_143 g18 ?_
    let h_7 : Hp := hput h (h l0 13) l2 (w32 ((h (h l0 13) l2) + (h (h l0 13) s0)))
    refine z_aload_n X dX12_laysTree_144 1 rfl ?_
    refine y_get X fl_RX12_167 dX12_laysTree_145 g17 ?_
    refine z_iload_n X dX12_laysTree_148 3 rfl ?_
    refine z_aload_n X dX12_laysTree_149 1 rfl ?_
    refine y_get X fl_RX12_167 dX12_laysTree_150 g17 ?_
    refine z_iload_n X dX12_laysTree_153 3 rfl ?_
    obtain ⟨g20, hf⟩ := gif hf
    refine y_zald X dX12_laysTree_154 g20 ?_
    refine z_if_ne X dX12_laysTree_155 rfl (fun hc155 => ?_) (fun hc155 => ?_)
    · have hf := iff' hc155 hf
      exact z_weak [1, 2, 3, 4] rfl (z_M_laysTree_j168 X l0 l1 l2 l3 l2 (h_7 l0 14) h_7 _ hf E hx0 hk)
    · have hf := ift hc155 hf
      refine z_aload_n X dX12_laysTree_158 1 rfl ?_
      refine y_get X fl_RX12_167 dX12_laysTree_159 g17 ?_
      refine z_iload X dX12_laysTree_162 0 rfl ?_
      obtain ⟨g23, hf⟩ := gif hf
      refine y_zald X dX12_laysTree_164 g23 ?_
      refine z_if_eq X dX12_laysTree_165 rfl (fun hc165 => ?_) (fun hc165 => ?_)
      · have hf := ift hc165 hf
        refine z_iconst X dX12_laysTree_172 kc_0 ?_
        exact z_weak [1, 2, 3, 4] rfl (z_M_laysTree_j173 X l0 l1 l2 l3 0 l2 (h_7 l0 14) h_7 _ hf E hx0 hk)
      · have hf := iff' hc165 hf
        exact z_weak [1, 2, 3, 4] rfl (z_M_laysTree_j168 X l0 l1 l2 l3 l2 (h_7 l0 14) h_7 _ hf E hx0 hk)
  · have hf := ift hc122 hf
    refine z_goto X dX12_laysTree_125 rfl ?_
    exact z_weak [1, 2, 3, 4] rfl (z_M_laysTree_j174 X l0 l1 l2 l3 h _ hf E hx0 hk)
set_option maxHeartbeats 4000000 in
set_option maxRecDepth 100000 in
theorem z_M_laysTree_L93 {g : GP} {x : CX} {d : Nat} (X : zX g x RX12 cX12_laysTree 5 d) (l0 l1 l2 : Int)  (E : Hp → Prop) (hx0 : ∀ e : Hp, E (e) → ZV g x 5 e 180 [(0, (2, l0)), (1, (0, l1)), (2, (0, l2))] []) (l3 : Int) (h : Hp) (y : (Int × Hp) ⊕ (Hp)) (hf : M_laysTree_L93 l0 l1 l2 l3 h = some y) (hk : z_sum (fun q : Int × Hp => ZV g x 5 q.2 93 [(0, (2, l0)), (1, (0, l1)), (2, (0, l2)), (3, (0, q.1))] []) E y) : ZV g x 5 h 93 [(0, (2, l0)), (1, (0, l1)), (2, (0, l2)), (3, (0, l3))] [] := by
  unfold M_laysTree_L93 at hf
  refine z_iload_n X dX12_laysTree_93 3 rfl ?_
  refine z_iconst X dX12_laysTree_94 kc_2 ?_
  refine z_icmp_ge X dX12_laysTree_95 rfl (fun hc95 => ?_) (fun hc95 => ?_)
  · have hf := ift hc95 hf
    cases hf
    exact z_weak [0, 1, 2] rfl (hx0 _ hk)
  · have hf := iff' hc95 hf
    refine z_iload_n X dX12_laysTree_98 3 rfl ?_
    refine z_if_ne X dX12_laysTree_99 rfl (fun hc99 => ?_) (fun hc99 => ?_)
    · have hf := iff' hc99 hf
      refine z_aload_n X dX12_laysTree_111 0 rfl ?_
      obtain ⟨g15, hf⟩ := gif hf
      refine y_get X fl_RX12_110 dX12_laysTree_112 g15 ?_
      refine z_iload_n X dX12_laysTree_115 2 rfl ?_
      obtain ⟨g16, hf⟩ := gif hf
      refine y_iald X dX12_laysTree_116 g16 ?_
      exact (z_M_laysTree_j117 X l0 l1 l2 l3 (h (h l0 9) l2) h _ hf E hx0 hk)
    · have hf := ift hc99 hf
      refine z_aload_n X dX12_laysTree_102 0 rfl ?_
      obtain ⟨g24, hf⟩ := gif hf
      refine y_get X fl_RX12_107 dX12_laysTree_103 g24 ?_
      refine z_iload_n X dX12_laysTree_106 2 rfl ?_
      obtain ⟨g25, hf⟩ := gif hf
      refine y_iald X dX12_laysTree_107 g25 ?_
      refine z_goto X dX12_laysTree_108 rfl ?_
      exact (z_M_laysTree_j117 X l0 l1 l2 l3 (h (h l0 8) l2) h _ hf E hx0 hk)
set_option maxHeartbeats 4000000 in
set_option maxRecDepth 100000 in
theorem z_M_laysTree_j250 {g : GP} {x : CX} {d : Nat} (X : zX g x RX12 cX12_laysTree 5 d) (l0 l1 l2 s0 s1 s2 s3 : Int) (h : Hp) (y : (Int × Hp) ⊕ (Hp)) (hf : M_laysTree_j250 l0 l1 l2 s0 s1 s2 s3 h = some y) (E : Hp → Prop) (hx0 : ∀ e : Hp, E (e) → ZV g x 5 e 258 [] []) (hk : z_sum (fun q : Int × Hp => ZV g x 5 q.2 32 [(0, (2, l0)), (1, (0, l1)), (2, (0, q.1))] []) E y) : ZV g x 5 h 250 [(0, (2, l0)), (1, (0, l1)), (2, (0, l2))] [(0, s0), (0, s1), (0, s2), (2, s3)] := by
  unfold M_laysTree_j250 at hf
  refine z_iadd X dX12_laysTree_250 ?_
  obtain ⟨g33, hf⟩ := gif hf
  refine y_iast X dX12_laysTree_251 g33 ?_
  let h_9 : Hp := hput h s3 s2 (w32 (s1 + s0))
  refine z_iinc X dX12_laysTree_252 2 rfl (by decide) (ls' := [(2, (0, w32 (l2 + (-1)))), (0, (2, l0)), (1, (0, l1))]) rfl ?_
  refine z_goto X dX12_laysTree_255 rfl ?_
  cases hf
  exact z_weak [1, 2, 0] rfl hk
set_option maxHeartbeats 4000000 in
set_option maxRecDepth 100000 in
theorem z_M_laysTree_j228 {g : GP} {x : CX} {d : Nat} (X : zX g x RX12 cX12_laysTree 5 d) (l0 l1 l2 : Int) (h : Hp) (y : (Int × Hp) ⊕ (Hp)) (hf : M_laysTree_j228 l0 l1 l2 h = some y) (E : Hp → Prop) (hx0 : ∀ e : Hp, E (e) → ZV g x 5 e 258 [] []) (hk : z_sum (fun q : Int × Hp => ZV g x 5 q.2 32 [(0, (2, l0)), (1, (0, l1)), (2, (0, q.1))] []) E y) : ZV g x 5 h 228 [(0, (2, l0)), (1, (0, l1)), (2, (0, l2))] [] := by
  unfold M_laysTree_j228 at hf
  refine z_aload_n X dX12_laysTree_228 0 rfl ?_
  obtain ⟨g30, hf⟩ := gif hf
  refine y_get X fl_RX12_158 dX12_laysTree_229 g30 ?_
  refine z_iload_n X dX12_laysTree_232 1 rfl ?_
  refine z_dup2 X ne0 ne2 dX12_laysTree_233 ?_
  obtain ⟨g31, hf⟩ := gif hf
  refine y_iald X dX12_laysTree_234 g31 ?_
  refine z_aload_n X dX12_laysTree_235 0 rfl ?_
  refine y_get X fl_RX12_98 dX12_laysTree_236 g30 ?_
  refine z_iload_n X dX12_laysTree_239 2 rfl ?_
  obtain ⟨g32, hf⟩ := gif hf
  refine y_iald X dX12_laysTree_240 g32 ?_
  refine z_iconst X dX12_laysTree_241 kc_4 ?_
  refine z_icmp_ne X dX12_laysTree_242 rfl (fun hc242 => ?_) (fun hc242 => ?_)
  · rw [if_neg hc242] at hf
    refine z_iconst X dX12_laysTree_249 kc_0 ?_
    exact (z_M_laysTree_j250 X l0 l1 l2 0 (h (h l0 18) l1) l1 (h l0 18) h _ hf E hx0 hk)
  · rw [if_pos hc242] at hf
    refine z_iconst X dX12_laysTree_245 kc_1 ?_
    refine z_goto X dX12_laysTree_246 rfl ?_
    exact (z_M_laysTree_j250 X l0 l1 l2 1 (h (h l0 18) l1) l1 (h l0 18) h _ hf E hx0 hk)
set_option maxHeartbeats 4000000 in
set_option maxRecDepth 100000 in
theorem z_M_laysTree_j204 {g : GP} {x : CX} {d : Nat} (X : zX g x RX12 cX12_laysTree 5 d) (l0 l1 l2 : Int) (h : Hp) (y : (Int × Hp) ⊕ (Hp)) (hf : M_laysTree_j204 l0 l1 l2 h = some y) (E : Hp → Prop) (hx0 : ∀ e : Hp, E (e) → ZV g x 5 e 258 [] []) (hk : z_sum (fun q : Int × Hp => ZV g x 5 q.2 32 [(0, (2, l0)), (1, (0, l1)), (2, (0, q.1))] []) E y) : ZV g x 5 h 204 [(0, (2, l0)), (1, (0, l1)), (2, (0, l2))] [] := by
  unfold M_laysTree_j204 at hf
  refine z_aload_n X dX12_laysTree_204 0 rfl ?_
  obtain ⟨g28, hf⟩ := gif hf
  refine y_get X fl_RX12_98 dX12_laysTree_205 g28 ?_
  refine z_iload_n X dX12_laysTree_208 2 rfl ?_
  obtain ⟨g29, hf⟩ := gif hf
  refine y_iald X dX12_laysTree_209 g29 ?_
  refine z_iconst X dX12_laysTree_210 kc_1 ?_
  refine z_icmp_ne X dX12_laysTree_211 rfl (fun hc211 => ?_) (fun hc211 => ?_)
  · have hf := iff' hc211 hf
    exact (z_M_laysTree_j228 X l0 l1 l2 h _ hf E hx0 hk)
  · have hf := ift hc211 hf
    refine z_aload_n X dX12_laysTree_214 0 rfl ?_
    refine y_get X fl_RX12_155 dX12_laysTree_215 g28 ?_
    refine z_iload_n X dX12_laysTree_218 1 rfl ?_
    refine z_iload_n X dX12_laysTree_219 2 rfl ?_
    refine z_aload_n X dX12_laysTree_220 0 rfl ?_
    refine y_get X fl_RX12_7 dX12_laysTree_221 g28 ?_
    refine z_iload_n X dX12_laysTree_224 1 rfl ?_
    obtain ⟨g34, hf⟩ := gif hf
    refine y_iald X dX12_laysTree_225 g34 ?_
    refine z_isub X dX12_laysTree_226 ?_
    obtain ⟨g35, hf⟩ := gif hf
    refine y_iast X dX12_laysTree_227 g35 ?_
    let h_10 : Hp := hput h (h l0 17) l1 (w32 (l2 - (h (h l0 4) l1)))
    exact (z_M_laysTree_j228 X l0 l1 l2 h_10 _ hf E hx0 hk)
set_option maxHeartbeats 4000000 in
set_option maxRecDepth 100000 in
theorem z_M_laysTree_j90 {g : GP} {x : CX} {d : Nat} (X : zX g x RX12 cX12_laysTree 5 d) (l0 l1 l2 s0 s1 s2 : Int) (h : Hp) (y : (Int × Hp) ⊕ (Hp)) (hf : M_laysTree_j90 l0 l1 l2 s0 s1 s2 h = some y) (E : Hp → Prop) (hx0 : ∀ e : Hp, E (e) → ZV g x 5 e 258 [] []) (hk : z_sum (fun q : Int × Hp => ZV g x 5 q.2 32 [(0, (2, l0)), (1, (0, l1)), (2, (0, q.1))] []) E y) : ZV g x 5 h 90 [(0, (2, l0)), (1, (0, l1)), (2, (0, l2))] [(0, s0), (0, s1), (2, s2)] := by
  unfold M_laysTree_j90 at hf
  obtain ⟨g13, hf⟩ := gif hf
  obtain ⟨g14, hf⟩ := gif hf
  refine y_zast X dX12_laysTree_90 g13 g14 ?_
  let h_6 : Hp := hput h s2 s1 s0
  refine z_iconst X dX12_laysTree_91 kc_0 ?_
  refine z_istore_n X dX12_laysTree_92 (by decide) (ls' := [(3, (0, 0)), (0, (2, l0)), (1, (0, l1)), (2, (0, l2))]) rfl ?_
  obtain ⟨q93, hq93, hf⟩ := obE hf
  have hx93_0 : ∀ e180 : Hp, (e180 : Hp) = q93 → ZV g x 5 e180 180 [(0, (2, l0)), (1, (0, l1)), (2, (0, l2))] [] := by
    intro e180 hq
    subst hq
    refine z_aload_n X dX12_laysTree_180 0 rfl ?_
    obtain ⟨g26, hf⟩ := gif hf
    refine y_get X fl_RX12_98 dX12_laysTree_181 g26 ?_
    refine z_iload_n X dX12_laysTree_184 2 rfl ?_
    obtain ⟨g27, hf⟩ := gif hf
    refine y_iald X dX12_laysTree_185 g27 ?_
    refine z_iconst X dX12_laysTree_186 kc_3 ?_
    refine z_icmp_ne X dX12_laysTree_187 rfl (fun hc187 => ?_) (fun hc187 => ?_)
    · have hf := iff' hc187 hf
      exact (z_M_laysTree_j204 X l0 l1 l2 e180 _ hf E hx0 hk)
    · have hf := ift hc187 hf
      refine z_aload_n X dX12_laysTree_190 0 rfl ?_
      refine y_get X fl_RX12_29 dX12_laysTree_191 g26 ?_
      refine z_iload_n X dX12_laysTree_194 1 rfl ?_
      refine z_iload_n X dX12_laysTree_195 2 rfl ?_
      refine z_aload_n X dX12_laysTree_196 0 rfl ?_
      refine y_get X fl_RX12_7 dX12_laysTree_197 g26 ?_
      refine z_iload_n X dX12_laysTree_200 1 rfl ?_
      obtain ⟨g36, hf⟩ := gif hf
      refine y_iald X dX12_laysTree_201 g36 ?_
      refine z_isub X dX12_laysTree_202 ?_
      obtain ⟨g37, hf⟩ := gif hf
      refine y_iast X dX12_laysTree_203 g37 ?_
      let h_11 : Hp := hput e180 (e180 l0 16) l1 (w32 (l2 - (e180 (e180 l0 4) l1)))
      exact (z_M_laysTree_j204 X l0 l1 l2 h_11 _ hf E hx0 hk)
  exact z_weak [1, 2, 3, 0] rfl (z_loop (Z := (fun q : Int × Hp => ZV g x 5 q.2 93 [(0, (2, l0)), (1, (0, l1)), (2, (0, l2)), (3, (0, q.1))] [])) (E := fun q => q = q93) (fun q y hb hk => z_M_laysTree_L93 X l0 l1 l2 (fun q => q = q93) hx93_0 q.1 q.2 y hb hk) LN (0, h_6) q93 hq93 rfl)
set_option maxHeartbeats 4000000 in
set_option maxRecDepth 100000 in
theorem z_M_laysTree_j69 {g : GP} {x : CX} {d : Nat} (X : zX g x RX12 cX12_laysTree 5 d) (l0 l1 l2 s0 s1 s2 : Int) (h : Hp) (y : (Int × Hp) ⊕ (Hp)) (hf : M_laysTree_j69 l0 l1 l2 s0 s1 s2 h = some y) (E : Hp → Prop) (hx0 : ∀ e : Hp, E (e) → ZV g x 5 e 258 [] []) (hk : z_sum (fun q : Int × Hp => ZV g x 5 q.2 32 [(0, (2, l0)), (1, (0, l1)), (2, (0, q.1))] []) E y) : ZV g x 5 h 69 [(0, (2, l0)), (1, (0, l1)), (2, (0, l2))] [(0, s0), (0, s1), (2, s2)] := by
  unfold M_laysTree_j69 at hf
  obtain ⟨g10, hf⟩ := gif hf
  refine y_iast X dX12_laysTree_69 g10 ?_
  let h_5 : Hp := hput h s2 s1 s0
  refine z_aload_n X dX12_laysTree_70 0 rfl ?_
  obtain ⟨g11, hf⟩ := gif hf
  refine y_get X fl_RX12_167 dX12_laysTree_71 g11 ?_
  refine z_iload_n X dX12_laysTree_74 2 rfl ?_
  refine z_aload_n X dX12_laysTree_75 0 rfl ?_
  refine y_get X fl_RX12_98 dX12_laysTree_76 g11 ?_
  refine z_iload_n X dX12_laysTree_79 2 rfl ?_
  obtain ⟨g12, hf⟩ := gif hf
  refine y_iald X dX12_laysTree_80 g12 ?_
  refine z_iconst X dX12_laysTree_81 kc_3 ?_
  refine z_icmp_ne X dX12_laysTree_82 rfl (fun hc82 => ?_) (fun hc82 => ?_)
  · rw [if_neg hc82] at hf
    refine z_iconst X dX12_laysTree_89 kc_0 ?_
    exact (z_M_laysTree_j90 X l0 l1 l2 0 l2 (h_5 l0 14) h_5 _ hf E hx0 hk)
  · rw [if_pos hc82] at hf
    refine z_iconst X dX12_laysTree_85 kc_1 ?_
    refine z_goto X dX12_laysTree_86 rfl ?_
    exact (z_M_laysTree_j90 X l0 l1 l2 1 l2 (h_5 l0 14) h_5 _ hf E hx0 hk)
set_option maxHeartbeats 4000000 in
set_option maxRecDepth 100000 in
theorem z_M_laysTree_L32 {g : GP} {x : CX} {d : Nat} (X : zX g x RX12 cX12_laysTree 5 d) (l0 l1 : Int)  (E : Hp → Prop) (hx0 : ∀ e : Hp, E (e) → ZV g x 5 e 258 [] []) (l2 : Int) (h : Hp) (y : (Int × Hp) ⊕ (Hp)) (hf : M_laysTree_L32 l0 l1 l2 h = some y) (hk : z_sum (fun q : Int × Hp => ZV g x 5 q.2 32 [(0, (2, l0)), (1, (0, l1)), (2, (0, q.1))] []) E y) : ZV g x 5 h 32 [(0, (2, l0)), (1, (0, l1)), (2, (0, l2))] [] := by
  unfold M_laysTree_L32 at hf
  refine z_iload_n X dX12_laysTree_32 2 rfl ?_
  refine z_aload_n X dX12_laysTree_33 0 rfl ?_
  obtain ⟨g6, hf⟩ := gif hf
  refine y_get X fl_RX12_7 dX12_laysTree_34 g6 ?_
  refine z_iload_n X dX12_laysTree_37 1 rfl ?_
  obtain ⟨g7, hf⟩ := gif hf
  refine y_iald X dX12_laysTree_38 g7 ?_
  refine z_icmp_lt X dX12_laysTree_39 rfl (fun hc39 => ?_) (fun hc39 => ?_)
  · have hf := ift hc39 hf
    cases hf
    exact z_weak [] rfl (hx0 _ hk)
  · have hf := iff' hc39 hf
    refine z_aload_n X dX12_laysTree_42 0 rfl ?_
    refine y_get X fl_RX12_161 dX12_laysTree_43 g6 ?_
    refine z_iload_n X dX12_laysTree_46 2 rfl ?_
    refine z_iload_n X dX12_laysTree_47 1 rfl ?_
    obtain ⟨g8, hf⟩ := gif hf
    refine y_iast X dX12_laysTree_48 g8 ?_
    let h_4 : Hp := hput h (h l0 15) l2 l1
    refine z_aload_n X dX12_laysTree_49 0 rfl ?_
    refine y_get X fl_RX12_164 dX12_laysTree_50 g6 ?_
    refine z_iload_n X dX12_laysTree_53 2 rfl ?_
    refine z_aload_n X dX12_laysTree_54 0 rfl ?_
    refine y_get X fl_RX12_98 dX12_laysTree_55 g6 ?_
    refine z_iload_n X dX12_laysTree_58 2 rfl ?_
    obtain ⟨g9, hf⟩ := gif hf
    refine y_iald X dX12_laysTree_59 g9 ?_
    refine z_iconst X dX12_laysTree_60 kc_1 ?_
    refine z_icmp_ne X dX12_laysTree_61 rfl (fun hc61 => ?_) (fun hc61 => ?_)
    · rw [if_neg hc61] at hf
      refine z_iconst X dX12_laysTree_68 kc_0 ?_
      exact (z_M_laysTree_j69 X l0 l1 l2 0 l2 (h_4 l0 13) h_4 _ hf E hx0 hk)
    · rw [if_pos hc61] at hf
      refine z_iconst X dX12_laysTree_64 kc_1 ?_
      refine z_goto X dX12_laysTree_65 rfl ?_
      exact (z_M_laysTree_j69 X l0 l1 l2 1 l2 (h_4 l0 13) h_4 _ hf E hx0 hk)
set_option maxHeartbeats 4000000 in
set_option maxRecDepth 100000 in
theorem c_M_laysTree {l : Launch} {g : GP} (d : Nat) (hd : 0 ≤ d) (l0 l1 : Int) (h : Hp) (y : Hp) (hf : M_laysTree l0 l1 h = some y) : zM l yX12_laysTree cX12_laysTree 5 none d 0 0 g 157 h [(2, l0), (0, l1)] 157 y none := by
  refine z_start (by decide) (Nat.le_of_ble_eq_true rfl) (fun x X hK _ _ _ hl => ?_)
  show ZV g x 5 h 0 [(0, (2, l0)), (1, (0, l1))] []
  unfold M_laysTree at hf
  refine z_aload_n X dX12_laysTree_0 0 rfl ?_
  obtain ⟨g1, hf⟩ := gif hf
  refine y_get X fl_RX12_29 dX12_laysTree_1 g1 ?_
  refine z_iload_n X dX12_laysTree_4 1 rfl ?_
  refine z_iconst X dX12_laysTree_5 kc_m1 ?_
  obtain ⟨g2, hf⟩ := gif hf
  refine y_iast X dX12_laysTree_6 g2 ?_
  let h_1 : Hp := hput h (h l0 16) l1 ((-1))
  refine z_aload_n X dX12_laysTree_7 0 rfl ?_
  refine y_get X fl_RX12_155 dX12_laysTree_8 g1 ?_
  refine z_iload_n X dX12_laysTree_11 1 rfl ?_
  refine z_iconst X dX12_laysTree_12 kc_m1 ?_
  obtain ⟨g3, hf⟩ := gif hf
  refine y_iast X dX12_laysTree_13 g3 ?_
  let h_2 : Hp := hput h_1 (h_1 l0 17) l1 ((-1))
  refine z_aload_n X dX12_laysTree_14 0 rfl ?_
  refine y_get X fl_RX12_158 dX12_laysTree_15 g1 ?_
  refine z_iload_n X dX12_laysTree_18 1 rfl ?_
  refine z_iconst X dX12_laysTree_19 kc_0 ?_
  obtain ⟨g4, hf⟩ := gif hf
  refine y_iast X dX12_laysTree_20 g4 ?_
  let h_3 : Hp := hput h_2 (h_2 l0 18) l1 0
  refine z_aload_n X dX12_laysTree_21 0 rfl ?_
  refine y_get X fl_RX12_7 dX12_laysTree_22 g1 ?_
  refine z_iload_n X dX12_laysTree_25 1 rfl ?_
  refine z_iconst X dX12_laysTree_26 kc_1 ?_
  refine z_iadd X dX12_laysTree_27 ?_
  obtain ⟨g5, hf⟩ := gif hf
  refine y_iald X dX12_laysTree_28 g5 ?_
  refine z_iconst X dX12_laysTree_29 kc_1 ?_
  refine z_isub X dX12_laysTree_30 ?_
  refine z_istore_n X dX12_laysTree_31 (by decide) (ls' := [(2, (0, w32 ((h_3 (h_3 l0 4) (w32 (l1 + 1))) - 1))), (0, (2, l0)), (1, (0, l1))]) rfl ?_
  obtain ⟨q32, hq32, hf⟩ := obE hf
  have hx32_0 : ∀ e258 : Hp, (e258 : Hp) = q32 → ZV g x 5 e258 258 [] [] := by
    intro e258 hq
    subst hq
    cases hf
    exact z_vret X hK dX12_laysTree_258
  exact z_weak [1, 2, 0] rfl (z_loop (Z := (fun q : Int × Hp => ZV g x 5 q.2 32 [(0, (2, l0)), (1, (0, l1)), (2, (0, q.1))] [])) (E := fun q => q = q32) (fun q y hb hk => z_M_laysTree_L32 X l0 l1 (fun q => q = q32) hx32_0 q.1 q.2 y hb hk) LN (w32 ((h_3 (h_3 l0 4) (w32 (l1 + 1))) - 1), h_3) q32 hq32 rfl)
set_option maxHeartbeats 4000000 in
set_option maxRecDepth 100000 in
theorem z_M_grammar_j73 {g : GP} {x : CX} {d : Nat} (X : zX g x RX12 cX12_grammar 2 (d + 1)) (hd : 4 ≤ d) (l0 : Int) (h : Hp) (y : (Hp) ⊕ (Hp)) (hf : M_grammar_j73 (d + 1) l0 h = some y) (E : Hp → Prop) (hx0 : ∀ e : Hp, E (e) → ZV g x 2 e 91 [(0, (2, l0))] []) (hk : z_sum (fun q : Hp => ZV g x 2 q 42 [(0, (2, l0))] []) E y) : ZV g x 2 h 73 [(0, (2, l0))] [] := by
  unfold M_grammar_j73 at hf
  refine z_aload_n X dX12_grammar_73 0 rfl ?_
  obtain ⟨g3, hf⟩ := gif hf
  obtain ⟨r74, hr74, hf⟩ := obE hf
  refine y_V0 X cv_RX12_146 dX12_grammar_74 g3 (c_M_readTree d (Nat.le_trans (by decide) hd) l0 h r74 hr74) (as := []) rfl rfl (Nat.le_of_ble_eq_true rfl) z00 ?_
  refine z_aload_n X dX12_grammar_77 0 rfl ?_
  obtain ⟨r78, hr78, hf⟩ := obE hf
  refine y_V1 X cv_RX12_75 dX12_grammar_78 g3 (c_M_good d (Nat.zero_le _) l0 r74 r78 hr78) (as := []) rfl rfl (Nat.le_of_ble_eq_true rfl) z00 ?_
  refine z_if_eq X dX12_grammar_81 rfl (fun hc81 => ?_) (fun hc81 => ?_)
  · have hf := ift hc81 hf
    cases hf
    exact hk
  · have hf := iff' hc81 hf
    refine z_aload_n X dX12_grammar_84 0 rfl ?_
    obtain ⟨r85, hr85, hf⟩ := obE hf
    refine y_V0 X cv_RX12_143 dX12_grammar_85 g3 (c_M_advanceLine d (Nat.le_trans (by decide) hd) l0 r74 r85 hr85) (as := []) rfl rfl (Nat.le_of_ble_eq_true rfl) z00 ?_
    refine z_goto X dX12_grammar_88 rfl ?_
    cases hf
    exact hk
set_option maxHeartbeats 4000000 in
set_option maxRecDepth 100000 in
theorem z_M_grammar_L42 {g : GP} {x : CX} {d : Nat} (X : zX g x RX12 cX12_grammar 2 (d + 1)) (hd : 4 ≤ d) (l0 : Int)  (E : Hp → Prop) (hx0 : ∀ e : Hp, E (e) → ZV g x 2 e 91 [(0, (2, l0))] []) (h : Hp) (y : (Hp) ⊕ (Hp)) (hf : M_grammar_L42 (d + 1) l0 h = some y) (hk : z_sum (fun q : Hp => ZV g x 2 q 42 [(0, (2, l0))] []) E y) : ZV g x 2 h 42 [(0, (2, l0))] [] := by
  unfold M_grammar_L42 at hf
  refine z_aload_n X dX12_grammar_42 0 rfl ?_
  obtain ⟨g2, hf⟩ := gif hf
  obtain ⟨r43, hr43, hf⟩ := obE hf
  refine y_V1 X cv_RX12_75 dX12_grammar_43 g2 (c_M_good d (Nat.zero_le _) l0 h r43 hr43) (as := []) rfl rfl (Nat.le_of_ble_eq_true rfl) z00 ?_
  refine z_if_eq X dX12_grammar_46 rfl (fun hc46 => ?_) (fun hc46 => ?_)
  · have hf := ift hc46 hf
    cases hf
    exact (hx0 _ hk)
  · have hf := iff' hc46 hf
    refine z_aload_n X dX12_grammar_49 0 rfl ?_
    refine y_get X fl_RX12_61 dX12_grammar_50 g2 ?_
    refine z_if_eq X dX12_grammar_53 rfl (fun hc53 => ?_) (fun hc53 => ?_)
    · have hf := ift hc53 hf
      cases hf
      exact (hx0 _ hk)
    · have hf := iff' hc53 hf
      refine z_aload_n X dX12_grammar_56 0 rfl ?_
      refine y_get X fl_RX12_61 dX12_grammar_57 g2 ?_
      refine z_iconst X dX12_grammar_60 kc_1 ?_
      refine z_icmp_eq X dX12_grammar_61 rfl (fun hc61 => ?_) (fun hc61 => ?_)
      · have hf := ift hc61 hf
        exact (z_M_grammar_j73 X hd l0 h _ hf E hx0 hk)
      · have hf := iff' hc61 hf
        refine z_aload_n X dX12_grammar_64 0 rfl ?_
        refine z_iconst X dX12_grammar_65 kc_1 ?_
        refine z_aload_n X dX12_grammar_66 0 rfl ?_
        refine y_get X fl_RX12_51 dX12_grammar_67 g2 ?_
        obtain ⟨r70, hr70, hf⟩ := obE hf
        refine y_V0 X cv_RX12_85 dX12_grammar_70 g2 (c_M_errsAt d (Nat.le_trans (by decide) hd) l0 1 (h l0 24) h r70 hr70) (as := [(0, 1), (0, h l0 24)]) rfl rfl (Nat.le_of_ble_eq_true rfl) z00 ?_
        exact (z_M_grammar_j73 X hd l0 r70 _ hf E hx0 hk)
set_option maxHeartbeats 4000000 in
set_option maxRecDepth 100000 in
theorem z_M_grammar_L124 {g : GP} {x : CX} {d : Nat} (X : zX g x RX12 cX12_grammar 2 (d + 1)) (hd : 4 ≤ d) (l0 : Int)  (E : Hp → Prop) (hx0 : ∀ e : Hp, E (e) → ZV g x 2 e 153 [(0, (2, l0))] []) (l1 : Int) (h : Hp) (y : (Int × Hp) ⊕ (Hp)) (hf : M_grammar_L124 (d + 1) l0 l1 h = some y) (hk : z_sum (fun q : Int × Hp => ZV g x 2 q.2 124 [(0, (2, l0)), (1, (0, q.1))] []) E y) : ZV g x 2 h 124 [(0, (2, l0)), (1, (0, l1))] [] := by
  unfold M_grammar_L124 at hf
  refine z_iload_n X dX12_grammar_124 1 rfl ?_
  refine z_aload_n X dX12_grammar_125 0 rfl ?_
  obtain ⟨g4, hf⟩ := gif hf
  refine y_get X fl_RX12_11 dX12_grammar_126 g4 ?_
  refine z_icmp_ge X dX12_grammar_129 rfl (fun hc129 => ?_) (fun hc129 => ?_)
  · have hf := ift hc129 hf
    cases hf
    exact z_weak [0] rfl (hx0 _ hk)
  · have hf := iff' hc129 hf
    refine z_aload_n X dX12_grammar_132 0 rfl ?_
    refine y_get X fl_RX12_7 dX12_grammar_133 g4 ?_
    refine z_iload_n X dX12_grammar_136 1 rfl ?_
    refine z_aload_n X dX12_grammar_137 0 rfl ?_
    refine y_get X fl_RX12_7 dX12_grammar_138 g4 ?_
    refine z_bipush X dX12_grammar_141 kb_9 kc_9 ?_
    refine z_iload_n X dX12_grammar_143 1 rfl ?_
    refine z_iadd X dX12_grammar_144 ?_
    obtain ⟨g5, hf⟩ := gif hf
    refine y_iald X dX12_grammar_145 g5 ?_
    obtain ⟨g6, hf⟩ := gif hf
    refine y_iast X dX12_grammar_146 g6 ?_
    let h_11 : Hp := hput h (h l0 4) l1 (h (h l0 4) (w32 (9 + l1)))
    refine z_iinc X dX12_grammar_147 1 rfl (by decide) (ls' := [(1, (0, w32 (l1 + 1))), (0, (2, l0))]) rfl ?_
    refine z_goto X dX12_grammar_150 rfl ?_
    cases hf
    exact z_weak [1, 0] rfl hk
set_option maxHeartbeats 4000000 in
set_option maxRecDepth 100000 in
theorem z_M_grammar_j325 {g : GP} {x : CX} {d : Nat} (X : zX g x RX12 cX12_grammar 2 (d + 1)) (hd : 4 ≤ d) (l0 l1 s0 s1 s2 : Int) (h : Hp) (y : (Int × Hp) ⊕ (Hp)) (hf : M_grammar_j325 (d + 1) l0 l1 s0 s1 s2 h = some y) (E : Hp → Prop) (hx0 : ∀ e : Hp, E (e) → ZV g x 2 e 332 [(0, (2, l0))] []) (hk : z_sum (fun q : Int × Hp => ZV g x 2 q.2 168 [(0, (2, l0)), (1, (0, q.1))] []) E y) : ZV g x 2 h 325 [(0, (2, l0)), (1, (0, l1))] [(0, s0), (0, s1), (2, s2)] := by
  unfold M_grammar_j325 at hf
  obtain ⟨g22, hf⟩ := gif hf
  refine y_iast X dX12_grammar_325 g22 ?_
  let h_18 : Hp := hput h s2 s1 s0
  refine z_iinc X dX12_grammar_326 1 rfl (by decide) (ls' := [(1, (0, w32 (l1 + 1))), (0, (2, l0))]) rfl ?_
  refine z_goto X dX12_grammar_329 rfl ?_
  cases hf
  exact z_weak [1, 0] rfl hk
set_option maxHeartbeats 4000000 in
set_option maxRecDepth 100000 in
theorem z_M_grammar_j290 {g : GP} {x : CX} {d : Nat} (X : zX g x RX12 cX12_grammar 2 (d + 1)) (hd : 4 ≤ d) (l0 l1 s0 s1 s2 : Int) (h : Hp) (y : (Int × Hp) ⊕ (Hp)) (hf : M_grammar_j290 (d + 1) l0 l1 s0 s1 s2 h = some y) (E : Hp → Prop) (hx0 : ∀ e : Hp, E (e) → ZV g x 2 e 332 [(0, (2, l0))] []) (hk : z_sum (fun q : Int × Hp => ZV g x 2 q.2 168 [(0, (2, l0)), (1, (0, q.1))] []) E y) : ZV g x 2 h 290 [(0, (2, l0)), (1, (0, l1))] [(0, s0), (0, s1), (2, s2)] := by
  unfold M_grammar_j290 at hf
  obtain ⟨g19, hf⟩ := gif hf
  refine y_iast X dX12_grammar_290 g19 ?_
  let h_17 : Hp := hput h s2 s1 s0
  refine z_aload_n X dX12_grammar_291 0 rfl ?_
  obtain ⟨g20, hf⟩ := gif hf
  refine y_get X fl_RX12_113 dX12_grammar_292 g20 ?_
  refine z_iload_n X dX12_grammar_295 1 rfl ?_
  refine z_aload_n X dX12_grammar_296 0 rfl ?_
  refine y_get X fl_RX12_113 dX12_grammar_297 g20 ?_
  refine z_bipush X dX12_grammar_300 kb_40 kc_40 ?_
  refine z_iload_n X dX12_grammar_302 1 rfl ?_
  refine z_iadd X dX12_grammar_303 ?_
  obtain ⟨g21, hf⟩ := gif hf
  refine y_iald X dX12_grammar_304 g21 ?_
  refine z_iconst X dX12_grammar_305 kc_m1 ?_
  refine z_icmp_ne X dX12_grammar_306 rfl (fun hc306 => ?_) (fun hc306 => ?_)
  · rw [if_neg hc306] at hf
    refine z_aload_n X dX12_grammar_313 0 rfl ?_
    refine y_get X fl_RX12_113 dX12_grammar_314 g20 ?_
    refine z_bipush X dX12_grammar_317 kb_40 kc_40 ?_
    refine z_iload_n X dX12_grammar_319 1 rfl ?_
    refine z_iadd X dX12_grammar_320 ?_
    refine y_iald X dX12_grammar_321 g21 ?_
    refine z_bipush X dX12_grammar_322 kb_40 kc_40 ?_
    refine z_isub X dX12_grammar_324 ?_
    exact (z_M_grammar_j325 X hd l0 l1 (w32 ((h_17 (h_17 l0 10) (w32 (40 + l1))) - 40)) l1 (h_17 l0 10) h_17 _ hf E hx0 hk)
  · rw [if_pos hc306] at hf
    refine z_iconst X dX12_grammar_309 kc_m1 ?_
    refine z_goto X dX12_grammar_310 rfl ?_
    exact (z_M_grammar_j325 X hd l0 l1 ((-1)) l1 (h_17 l0 10) h_17 _ hf E hx0 hk)
set_option maxHeartbeats 4000000 in
set_option maxRecDepth 100000 in
theorem z_M_grammar_j255 {g : GP} {x : CX} {d : Nat} (X : zX g x RX12 cX12_grammar 2 (d + 1)) (hd : 4 ≤ d) (l0 l1 s0 s1 s2 : Int) (h : Hp) (y : (Int × Hp) ⊕ (Hp)) (hf : M_grammar_j255 (d + 1) l0 l1 s0 s1 s2 h = some y) (E : Hp → Prop) (hx0 : ∀ e : Hp, E (e) → ZV g x 2 e 332 [(0, (2, l0))] []) (hk : z_sum (fun q : Int × Hp => ZV g x 2 q.2 168 [(0, (2, l0)), (1, (0, q.1))] []) E y) : ZV g x 2 h 255 [(0, (2, l0)), (1, (0, l1))] [(0, s0), (0, s1), (2, s2)] := by
  unfold M_grammar_j255 at hf
  obtain ⟨g16, hf⟩ := gif hf
  refine y_iast X dX12_grammar_255 g16 ?_
  let h_16 : Hp := hput h s2 s1 s0
  refine z_aload_n X dX12_grammar_256 0 rfl ?_
  obtain ⟨g17, hf⟩ := gif hf
  refine y_get X fl_RX12_110 dX12_grammar_257 g17 ?_
  refine z_iload_n X dX12_grammar_260 1 rfl ?_
  refine z_aload_n X dX12_grammar_261 0 rfl ?_
  refine y_get X fl_RX12_110 dX12_grammar_262 g17 ?_
  refine z_bipush X dX12_grammar_265 kb_40 kc_40 ?_
  refine z_iload_n X dX12_grammar_267 1 rfl ?_
  refine z_iadd X dX12_grammar_268 ?_
  obtain ⟨g18, hf⟩ := gif hf
  refine y_iald X dX12_grammar_269 g18 ?_
  refine z_iconst X dX12_grammar_270 kc_m1 ?_
  refine z_icmp_ne X dX12_grammar_271 rfl (fun hc271 => ?_) (fun hc271 => ?_)
  · rw [if_neg hc271] at hf
    refine z_aload_n X dX12_grammar_278 0 rfl ?_
    refine y_get X fl_RX12_110 dX12_grammar_279 g17 ?_
    refine z_bipush X dX12_grammar_282 kb_40 kc_40 ?_
    refine z_iload_n X dX12_grammar_284 1 rfl ?_
    refine z_iadd X dX12_grammar_285 ?_
    refine y_iald X dX12_grammar_286 g18 ?_
    refine z_bipush X dX12_grammar_287 kb_40 kc_40 ?_
    refine z_isub X dX12_grammar_289 ?_
    exact (z_M_grammar_j290 X hd l0 l1 (w32 ((h_16 (h_16 l0 9) (w32 (40 + l1))) - 40)) l1 (h_16 l0 9) h_16 _ hf E hx0 hk)
  · rw [if_pos hc271] at hf
    refine z_iconst X dX12_grammar_274 kc_m1 ?_
    refine z_goto X dX12_grammar_275 rfl ?_
    exact (z_M_grammar_j290 X hd l0 l1 ((-1)) l1 (h_16 l0 9) h_16 _ hf E hx0 hk)
set_option maxHeartbeats 4000000 in
set_option maxRecDepth 100000 in
theorem z_M_grammar_L168 {g : GP} {x : CX} {d : Nat} (X : zX g x RX12 cX12_grammar 2 (d + 1)) (hd : 4 ≤ d) (l0 : Int)  (E : Hp → Prop) (hx0 : ∀ e : Hp, E (e) → ZV g x 2 e 332 [(0, (2, l0))] []) (l1 : Int) (h : Hp) (y : (Int × Hp) ⊕ (Hp)) (hf : M_grammar_L168 (d + 1) l0 l1 h = some y) (hk : z_sum (fun q : Int × Hp => ZV g x 2 q.2 168 [(0, (2, l0)), (1, (0, q.1))] []) E y) : ZV g x 2 h 168 [(0, (2, l0)), (1, (0, l1))] [] := by
  unfold M_grammar_L168 at hf
  refine z_iload_n X dX12_grammar_168 1 rfl ?_
  refine z_aload_n X dX12_grammar_169 0 rfl ?_
  obtain ⟨g8, hf⟩ := gif hf
  refine y_get X fl_RX12_149 dX12_grammar_170 g8 ?_
  refine z_icmp_ge X dX12_grammar_173 rfl (fun hc173 => ?_) (fun hc173 => ?_)
  · have hf := ift hc173 hf
    cases hf
    exact z_weak [0] rfl (hx0 _ hk)
  · have hf := iff' hc173 hf
    refine z_aload_n X dX12_grammar_176 0 rfl ?_
    refine y_get X fl_RX12_98 dX12_grammar_177 g8 ?_
    refine z_iload_n X dX12_grammar_180 1 rfl ?_
    refine z_aload_n X dX12_grammar_181 0 rfl ?_
    refine y_get X fl_RX12_98 dX12_grammar_182 g8 ?_
    refine z_bipush X dX12_grammar_185 kb_40 kc_40 ?_
    refine z_iload_n X dX12_grammar_187 1 rfl ?_
    refine z_iadd X dX12_grammar_188 ?_
    obtain ⟨g9, hf⟩ := gif hf
    refine y_iald X dX12_grammar_189 g9 ?_
    obtain ⟨g10, hf⟩ := gif hf
    refine y_iast X dX12_grammar_190 g10 ?_
    let h_13 : Hp := hput h (h l0 5) l1 (h (h l0 5) (w32 (40 + l1)))
    refine z_aload_n X dX12_grammar_191 0 rfl ?_
    refine y_get X fl_RX12_101 dX12_grammar_192 g8 ?_
    refine z_iload_n X dX12_grammar_195 1 rfl ?_
    refine z_aload_n X dX12_grammar_196 0 rfl ?_
    refine y_get X fl_RX12_101 dX12_grammar_197 g8 ?_
    refine z_bipush X dX12_grammar_200 kb_40 kc_40 ?_
    refine z_iload_n X dX12_grammar_202 1 rfl ?_
    refine z_iadd X dX12_grammar_203 ?_
    obtain ⟨g11, hf⟩ := gif hf
    refine y_iald X dX12_grammar_204 g11 ?_
    obtain ⟨g12, hf⟩ := gif hf
    refine y_iast X dX12_grammar_205 g12 ?_
    let h_14 : Hp := hput h_13 (h_13 l0 6) l1 (h_13 (h_13 l0 6) (w32 (40 + l1)))
    refine z_aload_n X dX12_grammar_206 0 rfl ?_
    refine y_get X fl_RX12_104 dX12_grammar_207 g8 ?_
    refine z_iload_n X dX12_grammar_210 1 rfl ?_
    refine z_aload_n X dX12_grammar_211 0 rfl ?_
    refine y_get X fl_RX12_104 dX12_grammar_212 g8 ?_
    refine z_bipush X dX12_grammar_215 kb_40 kc_40 ?_
    refine z_iload_n X dX12_grammar_217 1 rfl ?_
    refine z_iadd X dX12_grammar_218 ?_
    obtain ⟨g13, hf⟩ := gif hf
    refine y_iald X dX12_grammar_219 g13 ?_
    obtain ⟨g14, hf⟩ := gif hf
    refine y_iast X dX12_grammar_220 g14 ?_
    let h_15 : Hp := hput h_14 (h_14 l0 7) l1 (h_14 (h_14 l0 7) (w32 (40 + l1)))
    refine z_aload_n X dX12_grammar_221 0 rfl ?_
    refine y_get X fl_RX12_107 dX12_grammar_222 g8 ?_
    refine z_iload_n X dX12_grammar_225 1 rfl ?_
    refine z_aload_n X dX12_grammar_226 0 rfl ?_
    refine y_get X fl_RX12_107 dX12_grammar_227 g8 ?_
    refine z_bipush X dX12_grammar_230 kb_40 kc_40 ?_
    refine z_iload_n X dX12_grammar_232 1 rfl ?_
    refine z_iadd X dX12_grammar_233 ?_
    obtain ⟨g15, hf⟩ := gif hf
    refine y_iald X dX12_grammar_234 g15 ?_
    refine z_iconst X dX12_grammar_235 kc_m1 ?_
    refine z_icmp_ne X dX12_grammar_236 rfl (fun hc236 => ?_) (fun hc236 => ?_)
    · rw [if_neg hc236] at hf
      refine z_aload_n X dX12_grammar_243 0 rfl ?_
      refine y_get X fl_RX12_107 dX12_grammar_244 g8 ?_
      refine z_bipush X dX12_grammar_247 kb_40 kc_40 ?_
      refine z_iload_n X dX12_grammar_249 1 rfl ?_
      refine z_iadd X dX12_grammar_250 ?_
      refine y_iald X dX12_grammar_251 g15 ?_
      refine z_bipush X dX12_grammar_252 kb_40 kc_40 ?_
      refine z_isub X dX12_grammar_254 ?_
      exact (z_M_grammar_j255 X hd l0 l1 (w32 ((h_15 (h_15 l0 8) (w32 (40 + l1))) - 40)) l1 (h_15 l0 8) h_15 _ hf E hx0 hk)
    · rw [if_pos hc236] at hf
      refine z_iconst X dX12_grammar_239 kc_m1 ?_
      refine z_goto X dX12_grammar_240 rfl ?_
      exact (z_M_grammar_j255 X hd l0 l1 ((-1)) l1 (h_15 l0 8) h_15 _ hf E hx0 hk)
set_option maxHeartbeats 4000000 in
set_option maxRecDepth 100000 in
theorem z_M_grammar_L334 {g : GP} {x : CX} {d : Nat} (X : zX g x RX12 cX12_grammar 2 (d + 1)) (hd : 4 ≤ d) (l0 : Int)  (E : Hp → Prop) (hx0 : ∀ e : Hp, E (e) → ZV g x 2 e 353 [(0, (2, l0))] []) (l1 : Int) (h : Hp) (y : (Int × Hp) ⊕ (Hp)) (hf : M_grammar_L334 (d + 1) l0 l1 h = some y) (hk : z_sum (fun q : Int × Hp => ZV g x 2 q.2 334 [(0, (2, l0)), (1, (0, q.1))] []) E y) : ZV g x 2 h 334 [(0, (2, l0)), (1, (0, l1))] [] := by
  unfold M_grammar_L334 at hf
  refine z_iload_n X dX12_grammar_334 1 rfl ?_
  refine z_aload_n X dX12_grammar_335 0 rfl ?_
  obtain ⟨g23, hf⟩ := gif hf
  refine y_get X fl_RX12_11 dX12_grammar_336 g23 ?_
  refine z_icmp_ge X dX12_grammar_339 rfl (fun hc339 => ?_) (fun hc339 => ?_)
  · have hf := ift hc339 hf
    cases hf
    exact z_weak [0] rfl (hx0 _ hk)
  · have hf := iff' hc339 hf
    refine z_aload_n X dX12_grammar_342 0 rfl ?_
    refine z_iload_n X dX12_grammar_343 1 rfl ?_
    obtain ⟨r344, hr344, hf⟩ := obE hf
    refine y_V0 X cv_RX12_152 dX12_grammar_344 g23 (c_M_laysTree d (Nat.zero_le _) l0 l1 h r344 hr344) (as := [(0, l1)]) rfl rfl (Nat.le_of_ble_eq_true rfl) z00 ?_
    refine z_iinc X dX12_grammar_347 1 rfl (by decide) (ls' := [(1, (0, w32 (l1 + 1))), (0, (2, l0))]) rfl ?_
    refine z_goto X dX12_grammar_350 rfl ?_
    cases hf
    exact z_weak [1, 0] rfl hk
set_option maxHeartbeats 4000000 in
set_option maxRecDepth 100000 in
theorem c_M_grammar {l : Launch} {g : GP} (d : Nat) (hd : 5 ≤ d) (l0 : Int) (h : Hp) (y : Int × Hp) (hf : M_grammar d l0 h = some y) : zM l yX12_grammar cX12_grammar 2 (some .int) d 0 0 g 157 h [(2, l0)] 157 y.2 (some (0, y.1)) := by
  obtain ⟨d, rfl⟩ : ∃ k, d = k + 1 := ⟨d - 1, by omega⟩
  replace hd : 4 ≤ d := Nat.le_of_succ_le_succ hd
  refine z_start (by decide) (Nat.le_of_ble_eq_true rfl) (fun x X hK _ _ _ hl => ?_)
  show ZV g x 2 h 0 [(0, (2, l0))] []
  unfold M_grammar at hf
  refine z_aload_n X dX12_grammar_0 0 rfl ?_
  refine z_aload_n X dX12_grammar_1 0 rfl ?_
  obtain ⟨g1, hf⟩ := gif hf
  refine y_get X fl_RX12_32 dX12_grammar_2 g1 ?_
  refine y_put X fl_RX12_42 dX12_grammar_5 g1 rfl (by decide) ?_
  let h_1 : Hp := hput h l0 22 (h l0 20)
  refine z_aload_n X dX12_grammar_8 0 rfl ?_
  refine z_iconst X dX12_grammar_9 kc_0 ?_
  refine y_put X fl_RX12_32 dX12_grammar_10 g1 rfl (by decide) ?_
  let h_2 : Hp := hput h_1 l0 20 0
  refine z_aload_n X dX12_grammar_13 0 rfl ?_
  refine z_iconst X dX12_grammar_14 kc_0 ?_
  refine y_put X fl_RX12_45 dX12_grammar_15 g1 rfl (by decide) ?_
  let h_3 : Hp := hput h_2 l0 23 0
  refine z_aload_n X dX12_grammar_18 0 rfl ?_
  refine z_iconst X dX12_grammar_19 kc_0 ?_
  refine y_put X fl_RX12_72 dX12_grammar_20 g1 rfl (by decide) ?_
  let h_4 : Hp := hput h_3 l0 27 0
  refine z_aload_n X dX12_grammar_23 0 rfl ?_
  refine z_iconst X dX12_grammar_24 kc_m1 ?_
  refine y_put X fl_RX12_79 dX12_grammar_25 g1 rfl (by decide) ?_
  let h_5 : Hp := hput h_4 l0 28 ((-1))
  refine z_aload_n X dX12_grammar_28 0 rfl ?_
  refine z_iconst X dX12_grammar_29 kc_0 ?_
  refine y_put X fl_RX12_137 dX12_grammar_30 g1 rfl (by decide) ?_
  let h_6 : Hp := hput h_5 l0 11 0
  refine z_aload_n X dX12_grammar_33 0 rfl ?_
  refine z_iconst X dX12_grammar_34 kc_0 ?_
  refine y_put X fl_RX12_92 dX12_grammar_35 g1 rfl (by decide) ?_
  let h_7 : Hp := hput h_6 l0 12 0
  refine z_aload_n X dX12_grammar_38 0 rfl ?_
  obtain ⟨r39, hr39, hf⟩ := obE hf
  refine y_V0 X cv_RX12_143 dX12_grammar_39 g1 (c_M_advanceLine d (Nat.le_trans (by decide) hd) l0 h_7 r39 hr39) (as := []) rfl rfl (Nat.le_of_ble_eq_true rfl) z00 ?_
  obtain ⟨q42, hq42, hf⟩ := obE hf
  have hx42_0 : ∀ e91 : Hp, (e91 : Hp) = q42 → ZV g x 2 e91 91 [(0, (2, l0))] [] := by
    intro e91 hq
    subst hq
    refine z_aload_n X dX12_grammar_91 0 rfl ?_
    obtain ⟨r92, hr92, hf⟩ := obE hf
    refine y_V1 X cv_RX12_75 dX12_grammar_92 g1 (c_M_good d (Nat.zero_le _) l0 e91 r92 hr92) (as := []) rfl rfl (Nat.le_of_ble_eq_true rfl) z00 ?_
    refine z_if_ne X dX12_grammar_95 rfl (fun hc95 => ?_) (fun hc95 => ?_)
    · have hf := iff' hc95 hf
      refine z_aload_n X dX12_grammar_101 0 rfl ?_
      refine z_aload_n X dX12_grammar_102 0 rfl ?_
      refine y_get X fl_RX12_137 dX12_grammar_103 g1 ?_
      refine y_put X fl_RX12_11 dX12_grammar_106 g1 rfl (by decide) ?_
      let h_8 : Hp := hput e91 l0 1 (e91 l0 11)
      refine z_aload_n X dX12_grammar_109 0 rfl ?_
      refine z_aload_n X dX12_grammar_110 0 rfl ?_
      refine y_get X fl_RX12_92 dX12_grammar_111 g1 ?_
      refine y_put X fl_RX12_149 dX12_grammar_114 g1 rfl (by decide) ?_
      let h_9 : Hp := hput h_8 l0 2 (h_8 l0 12)
      refine z_aload_n X dX12_grammar_117 0 rfl ?_
      refine z_iconst X dX12_grammar_118 kc_0 ?_
      refine y_put X fl_RX12_26 dX12_grammar_119 g1 rfl (by decide) ?_
      let h_10 : Hp := hput h_9 l0 3 0
      refine z_iconst X dX12_grammar_122 kc_0 ?_
      refine z_istore_n X dX12_grammar_123 (by decide) (ls' := [(1, (0, 0)), (0, (2, l0))]) rfl ?_
      obtain ⟨q124, hq124, hf⟩ := obE hf
      have hx124_0 : ∀ e153 : Hp, (e153 : Hp) = q124 → ZV g x 2 e153 153 [(0, (2, l0))] [] := by
        intro e153 hq
        subst hq
        refine z_aload_n X dX12_grammar_153 0 rfl ?_
        refine y_get X fl_RX12_7 dX12_grammar_154 g1 ?_
        refine z_aload_n X dX12_grammar_157 0 rfl ?_
        refine y_get X fl_RX12_11 dX12_grammar_158 g1 ?_
        refine z_aload_n X dX12_grammar_161 0 rfl ?_
        refine y_get X fl_RX12_149 dX12_grammar_162 g1 ?_
        obtain ⟨g7, hf⟩ := gif hf
        refine y_iast X dX12_grammar_165 g7 ?_
        let h_12 : Hp := hput e153 (e153 l0 4) (e153 l0 1) (e153 l0 2)
        refine z_iconst X dX12_grammar_166 kc_0 ?_
        refine z_istore_n X dX12_grammar_167 (by decide) (ls' := [(1, (0, 0)), (0, (2, l0))]) rfl ?_
        obtain ⟨q168, hq168, hf⟩ := obE hf
        have hx168_0 : ∀ e332 : Hp, (e332 : Hp) = q168 → ZV g x 2 e332 332 [(0, (2, l0))] [] := by
          intro e332 hq
          subst hq
          refine z_iconst X dX12_grammar_332 kc_0 ?_
          refine z_istore_n X dX12_grammar_333 (by decide) (ls' := [(1, (0, 0)), (0, (2, l0))]) rfl ?_
          obtain ⟨q334, hq334, hf⟩ := obE hf
          have hx334_0 : ∀ e353 : Hp, (e353 : Hp) = q334 → ZV g x 2 e353 353 [(0, (2, l0))] [] := by
            intro e353 hq
            subst hq
            refine z_aload_n X dX12_grammar_353 0 rfl ?_
            refine y_get X fl_RX12_11 dX12_grammar_354 g1 ?_
            cases hf
            exact z_iret X hK dX12_grammar_357
          exact z_weak [1, 0] rfl (z_loop (Z := (fun q : Int × Hp => ZV g x 2 q.2 334 [(0, (2, l0)), (1, (0, q.1))] [])) (E := fun q => q = q334) (fun q y hb hk => z_M_grammar_L334 X hd l0 (fun q => q = q334) hx334_0 q.1 q.2 y hb hk) LN (0, e332) q334 hq334 rfl)
        exact z_weak [1, 0] rfl (z_loop (Z := (fun q : Int × Hp => ZV g x 2 q.2 168 [(0, (2, l0)), (1, (0, q.1))] [])) (E := fun q => q = q168) (fun q y hb hk => z_M_grammar_L168 X hd l0 (fun q => q = q168) hx168_0 q.1 q.2 y hb hk) LN (0, h_12) q168 hq168 rfl)
      exact z_weak [1, 0] rfl (z_loop (Z := (fun q : Int × Hp => ZV g x 2 q.2 124 [(0, (2, l0)), (1, (0, q.1))] [])) (E := fun q => q = q124) (fun q y hb hk => z_M_grammar_L124 X hd l0 (fun q => q = q124) hx124_0 q.1 q.2 y hb hk) LN (0, h_10) q124 hq124 rfl)
    · have hf := ift hc95 hf
      refine z_bipush X dX12_grammar_98 kb_m4 kc_m4 ?_
      cases hf
      exact z_iret X hK dX12_grammar_100
  exact (z_loop (Z := (fun q : Hp => ZV g x 2 q 42 [(0, (2, l0))] [])) (E := fun q => q = q42) (fun q y hb hk => z_M_grammar_L42 X hd l0 (fun q => q = q42) hx42_0 q y hb hk) LN r39 q42 hq42 rfl)
set_option maxHeartbeats 4000000 in
set_option maxRecDepth 100000 in
theorem c_M_fault {l : Launch} {g : GP} (d : Nat) (hd : 0 ≤ d) (l0 l1 : Int) (h : Hp) (y : Int) (hf : M_fault l0 l1 h = some y) : zM l yX12_fault cX12_fault 2 (some .int) d 0 0 g 157 h [(2, l0), (0, l1)] 157 h (some (0, y)) := by
  refine z_start (by decide) (Nat.le_of_ble_eq_true rfl) (fun x X hK _ _ _ hl => ?_)
  show ZV g x 2 h 0 [(0, (2, l0)), (1, (0, l1))] []
  unfold M_fault at hf
  refine z_iload_n X dX12_fault_0 1 rfl ?_
  refine z_if_ne X dX12_fault_1 rfl (fun hc1 => ?_) (fun hc1 => ?_)
  · have hf := iff' hc1 hf
    refine z_iload_n X dX12_fault_11 1 rfl ?_
    refine z_iconst X dX12_fault_12 kc_1 ?_
    refine z_icmp_ne X dX12_fault_13 rfl (fun hc13 => ?_) (fun hc13 => ?_)
    · have hf := iff' hc13 hf
      refine z_iconst X dX12_fault_23 kc_m1 ?_
      cases hf
      exact z_iret X hK dX12_fault_24
    · have hf := ift hc13 hf
      refine z_aload_n X dX12_fault_16 0 rfl ?_
      obtain ⟨g1, hf⟩ := gif hf
      refine y_get X fl_RX12_79 dX12_fault_17 g1 ?_
      refine z_goto X dX12_fault_20 rfl ?_
      cases hf
      exact z_iret X hK dX12_fault_24
  · have hf := ift hc1 hf
    refine z_aload_n X dX12_fault_4 0 rfl ?_
    obtain ⟨g2, hf⟩ := gif hf
    refine y_get X fl_RX12_72 dX12_fault_5 g2 ?_
    refine z_goto X dX12_fault_8 rfl ?_
    cases hf
    exact z_iret X hK dX12_fault_24
set_option maxHeartbeats 4000000 in
set_option maxRecDepth 100000 in
theorem z_M_say_L21 {g : GP} {x : CX} {d : Nat} (X : zX g x RX12 cX12_say 3 (d + 1)) (hd : 0 ≤ d) (l0 l1 : Int) (h : Hp) (E : (Unit) ⊕ (Unit) → Prop) (hx0 : ∀ e : Unit, E (.inl e) → ZV g x 3 h 45 [] []) (hx1 : ∀ e : Unit, E (.inr e) → ZV g x 3 h 54 [(0, (2, l0)), (1, (0, l1))] []) (l2 : Int) (y : (Int) ⊕ ((Unit) ⊕ (Unit))) (hf : M_say_L21 l0 l1 h l2 = some y) (hk : z_sum (fun q : Int => ZV g x 3 h 21 [(0, (2, l0)), (1, (0, l1)), (2, (0, q))] []) E y) : ZV g x 3 h 21 [(0, (2, l0)), (1, (0, l1)), (2, (0, l2))] [] := by
  unfold M_say_L21 at hf
  refine z_iload_n X dX12_say_21 2 rfl ?_
  refine z_iload_n X dX12_say_22 1 rfl ?_
  refine z_icmp_ge X dX12_say_23 rfl (fun hc23 => ?_) (fun hc23 => ?_)
  · have hf := ift hc23 hf
    cases hf
    exact z_weak [0, 1] rfl (hx1 _ hk)
  · have hf := iff' hc23 hf
    refine z_aload_n X dX12_say_26 0 rfl ?_
    obtain ⟨g2, hf⟩ := gif hf
    refine y_get X fl_RX12_38 dX12_say_27 g2 ?_
    refine z_iload_n X dX12_say_30 2 rfl ?_
    obtain ⟨g3, hf⟩ := gif hf
    refine y_bald X dX12_say_31 g3 ?_
    refine z_i2l X dX12_say_32 ?_
    refine z_ldc2 X kj_RX12_68 kl_97 dX12_say_33 ?_
    refine z_ldc2 X kj_RX12_70 kl_122 dX12_say_36 ?_
    obtain ⟨r39, hr39, hf⟩ := obE hf
    refine y_S1 X cs_RX12_14 dX12_say_39 (c_M_in d (Nat.zero_le _) (h (h l0 19) l2) 97 122 h r39 hr39) (as := [(1, h (h l0 19) l2), (1, 97), (1, 122)]) rfl rfl (Nat.le_of_ble_eq_true rfl) z00 ?_
    refine z_if_ne X dX12_say_42 rfl (fun hc42 => ?_) (fun hc42 => ?_)
    · have hf := iff' hc42 hf
      refine z_iinc X dX12_say_48 2 rfl (by decide) (ls' := [(2, (0, w32 (l2 + 1))), (0, (2, l0)), (1, (0, l1))]) rfl ?_
      refine z_goto X dX12_say_51 rfl ?_
      cases hf
      exact z_weak [1, 2, 0] rfl hk
    · have hf := ift hc42 hf
      cases hf
      exact z_weak [] rfl (hx0 _ hk)
set_option maxHeartbeats 4000000 in
set_option maxRecDepth 100000 in
theorem z_M_say_L61 {g : GP} {x : CX} {d : Nat} (X : zX g x RX12 cX12_say 3 (d + 1)) (hd : 0 ≤ d) (l0 l1 : Int)  (E : Hp → Prop) (hx0 : ∀ e : Hp, E (e) → ZV g x 3 e 87 [(1, (0, l1))] []) (l2 : Int) (h : Hp) (y : (Int × Hp) ⊕ (Hp)) (hf : M_say_L61 l0 l1 l2 h = some y) (hk : z_sum (fun q : Int × Hp => ZV g x 3 q.2 61 [(0, (2, l0)), (1, (0, l1)), (2, (0, q.1))] []) E y) : ZV g x 3 h 61 [(0, (2, l0)), (1, (0, l1)), (2, (0, l2))] [] := by
  unfold M_say_L61 at hf
  refine z_iload_n X dX12_say_61 2 rfl ?_
  refine z_iload_n X dX12_say_62 1 rfl ?_
  refine z_icmp_ge X dX12_say_63 rfl (fun hc63 => ?_) (fun hc63 => ?_)
  · have hf := ift hc63 hf
    cases hf
    exact z_weak [1] rfl (hx0 _ hk)
  · have hf := iff' hc63 hf
    refine z_aload_n X dX12_say_66 0 rfl ?_
    obtain ⟨g4, hf⟩ := gif hf
    refine y_get X fl_RX12_174 dX12_say_67 g4 ?_
    refine z_iload_n X dX12_say_70 2 rfl ?_
    refine z_aload_n X dX12_say_71 0 rfl ?_
    refine y_get X fl_RX12_38 dX12_say_72 g4 ?_
    refine z_iload_n X dX12_say_75 2 rfl ?_
    obtain ⟨g5, hf⟩ := gif hf
    refine y_bald X dX12_say_76 g5 ?_
    refine z_bipush X dX12_say_77 kb_97 kc_97 ?_
    refine z_isub X dX12_say_79 ?_
    obtain ⟨g6, hf⟩ := gif hf
    refine y_iast X dX12_say_80 g6 ?_
    let h_3 : Hp := hput h (h l0 31) l2 (w32 ((h (h l0 19) l2) - 97))
    refine z_iinc X dX12_say_81 2 rfl (by decide) (ls' := [(2, (0, w32 (l2 + 1))), (0, (2, l0)), (1, (0, l1))]) rfl ?_
    refine z_goto X dX12_say_84 rfl ?_
    cases hf
    exact z_weak [1, 2, 0] rfl hk
set_option maxHeartbeats 4000000 in
set_option maxRecDepth 100000 in
theorem c_M_say {l : Launch} {g : GP} (d : Nat) (hd : 1 ≤ d) (l0 : Int) (h : Hp) (y : Int × Hp) (hf : M_say l0 h = some y) : zM l yX12_say cX12_say 3 (some .int) d 0 0 g 157 h [(2, l0)] 157 y.2 (some (0, y.1)) := by
  obtain ⟨d, rfl⟩ : ∃ k, d = k + 1 := ⟨d - 1, by omega⟩
  replace hd : 0 ≤ d := Nat.le_of_succ_le_succ hd
  refine z_start (by decide) (Nat.le_of_ble_eq_true rfl) (fun x X hK _ _ _ hl => ?_)
  show ZV g x 3 h 0 [(0, (2, l0))] []
  unfold M_say at hf
  refine z_aload_n X dX12_say_0 0 rfl ?_
  obtain ⟨g1, hf⟩ := gif hf
  refine y_get X fl_RX12_32 dX12_say_1 g1 ?_
  refine z_istore_n X dX12_say_4 (by decide) (ls' := [(1, (0, h l0 20)), (0, (2, l0))]) rfl ?_
  refine z_aload_n X dX12_say_5 1 rfl ?_
  refine z_iconst X dX12_say_6 kc_0 ?_
  refine y_put X fl_RX12_32 dX12_say_7 g1 rfl (by decide) ?_
  let h_1 : Hp := hput h l0 20 0
  refine z_iload_n X dX12_say_10 0 rfl ?_
  refine z_bipush X dX12_say_11 kb_8 kc_8 ?_
  refine z_icmp_le X dX12_say_13 rfl (fun hc13 => ?_) (fun hc13 => ?_)
  · have hf := ift hc13 hf
    refine z_iconst X dX12_say_19 kc_0 ?_
    refine z_istore_n X dX12_say_20 (by decide) (ls' := [(2, (0, 0)), (1, (0, h l0 20)), (0, (2, l0))]) rfl ?_
    obtain ⟨q21, hq21, hf⟩ := obE hf
    have hx21_0 : ∀ e45 : Unit, (.inl e45 : (Unit) ⊕ (Unit)) = q21 → ZV g x 3 h_1 45 [] [] := by
      intro e45 hq
      subst hq
      dsimp only at hf
      refine z_bipush X dX12_say_45 kb_m4 kc_m4 ?_
      cases hf
      exact z_iret X hK dX12_say_47
    have hx21_1 : ∀ e54 : Unit, (.inr e54 : (Unit) ⊕ (Unit)) = q21 → ZV g x 3 h_1 54 [(0, (2, l0)), (1, (0, h l0 20))] [] := by
      intro e54 hq
      subst hq
      dsimp only at hf
      refine z_aload_n X dX12_say_54 0 rfl ?_
      refine z_iload_n X dX12_say_55 1 rfl ?_
      refine y_put X fl_RX12_171 dX12_say_56 g1 rfl (by decide) ?_
      let h_2 : Hp := hput h_1 l0 32 (h l0 20)
      refine z_iconst X dX12_say_59 kc_0 ?_
      refine z_istore_n X dX12_say_60 (by decide) (ls' := [(2, (0, 0)), (0, (2, l0)), (1, (0, h l0 20))]) rfl ?_
      obtain ⟨q61, hq61, hf⟩ := obE hf
      have hx61_0 : ∀ e87 : Hp, (e87 : Hp) = q61 → ZV g x 3 e87 87 [(1, (0, h l0 20))] [] := by
        intro e87 hq
        subst hq
        refine z_iload_n X dX12_say_87 0 rfl ?_
        cases hf
        exact z_iret X hK dX12_say_88
      exact z_weak [1, 2, 0] rfl (z_loop (Z := (fun q : Int × Hp => ZV g x 3 q.2 61 [(0, (2, l0)), (1, (0, h l0 20)), (2, (0, q.1))] [])) (E := fun q => q = q61) (fun q y hb hk => z_M_say_L61 X hd l0 (h l0 20) (fun q => q = q61) hx61_0 q.1 q.2 y hb hk) LN (0, h_2) q61 hq61 rfl)
    exact z_weak [2, 1, 0] rfl (z_loop (Z := (fun q : Int => ZV g x 3 h_1 21 [(0, (2, l0)), (1, (0, h l0 20)), (2, (0, q))] [])) (E := fun q => q = q21) (fun q y hb hk => z_M_say_L21 X hd l0 (h l0 20) h_1 (fun q => q = q21) hx21_0 hx21_1 q y hb hk) LN 0 q21 hq21 rfl)
  · have hf := iff' hc13 hf
    refine z_bipush X dX12_say_16 kb_m4 kc_m4 ?_
    cases hf
    exact z_iret X hK dX12_say_18
set_option maxHeartbeats 4000000 in
set_option maxRecDepth 100000 in
theorem c_M_place {l : Launch} {g : GP} (d : Nat) (hd : 0 ≤ d) (l0 l1 l2 l3 : Int) (h : Hp) (y : Int) (hf : M_place l0 l1 l2 l3 = some y) : zM l yX12_place cX12_place 4 (some .int) d 0 0 g 157 h [(0, l0), (0, l1), (0, l2), (0, l3)] 157 h (some (0, y)) := by
  refine z_start (by decide) (Nat.le_of_ble_eq_true rfl) (fun x X hK _ _ _ hl => ?_)
  show ZV g x 4 h 0 [(0, (0, l0)), (1, (0, l1)), (2, (0, l2)), (3, (0, l3))] []
  unfold M_place at hf
  refine z_iload_n X dX12_place_0 0 rfl ?_
  refine z_bipush X dX12_place_1 kb_10 kc_10 ?_
  refine z_imul X dX12_place_3 ?_
  refine z_iload_n X dX12_place_4 1 rfl ?_
  refine z_iadd X dX12_place_5 ?_
  refine z_bipush X dX12_place_6 kb_10 kc_10 ?_
  refine z_imul X dX12_place_8 ?_
  refine z_iload_n X dX12_place_9 2 rfl ?_
  refine z_iadd X dX12_place_10 ?_
  refine z_iconst X dX12_place_11 kc_1 ?_
  refine z_iadd X dX12_place_12 ?_
  refine z_bipush X dX12_place_13 kb_10 kc_10 ?_
  refine z_imul X dX12_place_15 ?_
  refine z_iload_n X dX12_place_16 3 rfl ?_
  refine z_iadd X dX12_place_17 ?_
  refine z_iconst X dX12_place_18 kc_1 ?_
  refine z_iadd X dX12_place_19 ?_
  cases hf
  exact z_iret X hK dX12_place_20
