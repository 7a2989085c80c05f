set_option maxHeartbeats 4000000 in
set_option maxRecDepth 100000 in
theorem c_X_fault {l : Launch} {g : GP} (d : Nat) (hd : 0 ≤ d) (l0 l1 : Int) (h : Hp) (y : Int) (hf : X_fault l0 l1 h = some y) : zM l yX11_fault cX11_fault 2 (some .int) d 0 0 g 157 h [(2, l0), (0, l1)] 157 h (some (0, y)) := by
  refine z_start (by decide) (Nat.le_of_ble_eq_true rfl) (fun x X hK _ _ _ hl => ?_)
  show ZV g x 2 h 0 [(0, (2, l0)), (1, (0, l1))] []
  unfold X_fault at hf
  refine z_iload_n X dX11_fault_0 1 rfl ?_
  refine z_if_ne X dX11_fault_1 rfl (fun hc1 => ?_) (fun hc1 => ?_)
  · have hf := iff' hc1 hf
    refine z_iload_n X dX11_fault_12 1 rfl ?_
    refine z_iconst X dX11_fault_13 kc_1 ?_
    refine z_icmp_ne X dX11_fault_14 rfl (fun hc14 => ?_) (fun hc14 => ?_)
    · have hf := iff' hc14 hf
      refine z_iconst X dX11_fault_27 kc_m1 ?_
      cases hf
      exact z_iret X hK dX11_fault_28
    · have hf := ift hc14 hf
      refine z_aload_n X dX11_fault_17 0 rfl ?_
      obtain ⟨g1, hf⟩ := gif hf
      refine y_get X fl_RX11_27 dX11_fault_18 g1 ?_
      obtain ⟨g2, hf⟩ := gif hf
      refine y_get X fl_RX11_131 dX11_fault_21 g2 ?_
      refine z_goto X dX11_fault_24 rfl ?_
      cases hf
      exact z_iret X hK dX11_fault_28
  · have hf := ift hc1 hf
    refine z_aload_n X dX11_fault_4 0 rfl ?_
    obtain ⟨g3, hf⟩ := gif hf
    refine y_get X fl_RX11_27 dX11_fault_5 g3 ?_
    obtain ⟨g4, hf⟩ := gif hf
    refine y_get X fl_RX11_128 dX11_fault_8 g4 ?_
    cases hf
    exact z_iret X hK dX11_fault_11
set_option maxHeartbeats 4000000 in
set_option maxRecDepth 100000 in
theorem z_X_say_L20 {g : GP} {x : CX} {d : Nat} (X : zX g x RX11 cX11_say 4 (d + 1)) (hd : 0 ≤ d) (l0 : Int) (h : Hp) (E : Int → Prop) (hx0 : ∀ e : Int, E (e) → ZV g x 4 h 53 [(0, (2, l0)), (1, (0, e))] []) (l1 l2 : Int) (y : (Int × Int) ⊕ (Int)) (hf : X_say_L20 l0 h l1 l2 = some y) (hk : z_sum (fun q : Int × Int => ZV g x 4 h 20 [(0, (2, l0)), (1, (0, q.1)), (2, (0, q.2))] []) E y) : ZV g x 4 h 20 [(0, (2, l0)), (1, (0, l1)), (2, (0, l2))] [] := by
  unfold X_say_L20 at hf
  refine z_iload_n X dX11_say_20 2 rfl ?_
  refine z_aload_n X dX11_say_21 0 rfl ?_
  obtain ⟨g3, hf⟩ := gif hf
  refine y_get X fl_RX11_14 dX11_say_22 g3 ?_
  obtain ⟨g4, hf⟩ := gif hf
  refine y_get X fl_RX11_118 dX11_say_25 g4 ?_
  refine z_icmp_ge X dX11_say_28 rfl (fun hc28 => ?_) (fun hc28 => ?_)
  · have hf := ift hc28 hf
    cases hf
    exact z_weak [0, 1] rfl (hx0 _ hk)
  · have hf := iff' hc28 hf
    refine z_iload_n X dX11_say_31 1 rfl ?_
    refine z_if_eq X dX11_say_32 rfl (fun hc32 => ?_) (fun hc32 => ?_)
    · have hf := ift hc32 hf
      cases hf
      exact z_weak [0, 1] rfl (hx0 _ hk)
    · have hf := iff' hc32 hf
      refine z_aload_n X dX11_say_35 0 rfl ?_
      refine y_get X fl_RX11_14 dX11_say_36 g3 ?_
      refine z_iload_n X dX11_say_39 2 rfl ?_
      obtain ⟨r40, hr40, hf⟩ := obE hf
      refine y_V1 X cv_RX11_134 dX11_say_40 g4 (c_By_at d (Nat.zero_le _) (h l0 0) l2 h r40 hr40) (as := [(0, l2)]) rfl rfl (Nat.le_of_ble_eq_true rfl) z00 ?_
      obtain ⟨r43, hr43, hf⟩ := obE hf
      refine y_S1 X cs_RX11_138 dX11_say_43 (c_X_isLetter d (Nat.zero_le _) r40 h r43 hr43) (as := [(0, r40)]) rfl rfl (Nat.le_of_ble_eq_true rfl) z00 ?_
      refine z_istore_n X dX11_say_46 (by decide) (ls' := [(1, (0, r43)), (0, (2, l0)), (2, (0, l2))]) rfl ?_
      refine z_iinc X dX11_say_47 2 rfl (by decide) (ls' := [(2, (0, w32 (l2 + 1))), (1, (0, r43)), (0, (2, l0))]) rfl ?_
      refine z_goto X dX11_say_50 rfl ?_
      cases hf
      exact z_weak [2, 1, 0] rfl hk
set_option maxHeartbeats 4000000 in
set_option maxRecDepth 100000 in
theorem z_X_say_L86 {g : GP} {x : CX} {d : Nat} (X : zX g x RX11 cX11_say 4 (d + 1)) (hd : 0 ≤ d) (l0 l2 : Int)  (E : Hp → Prop) (hx0 : ∀ e : Hp, E (e) → ZV g x 4 e 116 [(0, (2, l0)), (2, (0, l2))] []) (l3 : Int) (h : Hp) (y : (Int × Hp) ⊕ (Hp)) (hf : X_say_L86 l0 l2 l3 h = some y) (hk : z_sum (fun q : Int × Hp => ZV g x 4 q.2 86 [(0, (2, l0)), (2, (0, l2)), (3, (0, q.1))] []) E y) : ZV g x 4 h 86 [(0, (2, l0)), (2, (0, l2)), (3, (0, l3))] [] := by
  unfold X_say_L86 at hf
  refine z_iload_n X dX11_say_86 2 rfl ?_
  refine z_iload_n X dX11_say_87 1 rfl ?_
  refine z_icmp_ge X dX11_say_88 rfl (fun hc88 => ?_) (fun hc88 => ?_)
  · have hf := ift hc88 hf
    cases hf
    exact z_weak [0, 1] rfl (hx0 _ hk)
  · have hf := iff' hc88 hf
    refine z_aload_n X dX11_say_91 0 rfl ?_
    obtain ⟨g8, hf⟩ := gif hf
    refine y_get X fl_RX11_21 dX11_say_92 g8 ?_
    refine z_aload_n X dX11_say_95 0 rfl ?_
    refine y_get X fl_RX11_14 dX11_say_96 g8 ?_
    obtain ⟨g9, hf⟩ := gif hf
    refine y_get X fl_RX11_142 dX11_say_99 g9 ?_
    refine z_iload_n X dX11_say_102 2 rfl ?_
    obtain ⟨g10, hf⟩ := gif hf
    refine y_bald X dX11_say_103 g10 ?_
    refine z_bipush X dX11_say_104 kb_97 kc_97 ?_
    refine z_isub X dX11_say_106 ?_
    obtain ⟨g11, hf⟩ := gif hf
    obtain ⟨r107, hr107, hf⟩ := obE hf
    refine y_V0 X cv_RX11_146 dX11_say_107 g11 (c_By_add d (Nat.zero_le _) (h l0 2) (w32 ((h (h (h l0 0) 0) l3) - 97)) h r107 hr107) (as := [(0, w32 ((h (h (h l0 0) 0) l3) - 97))]) rfl rfl (Nat.le_of_ble_eq_true rfl) z00 ?_
    refine z_iinc X dX11_say_110 2 rfl (by decide) (ls' := [(3, (0, w32 (l3 + 1))), (0, (2, l0)), (2, (0, l2))]) rfl ?_
    refine z_goto X dX11_say_113 rfl ?_
    cases hf
    exact z_weak [1, 2, 0] rfl hk
set_option maxHeartbeats 4000000 in
set_option maxRecDepth 100000 in
theorem z_X_say_j17 {g : GP} {x : CX} {d : Nat} (X : zX g x RX11 cX11_say 4 (d + 1)) (hd : 0 ≤ d) (l0 s0 : Int) (h : Hp) (y : Int × Hp) (hf : X_say_j17 l0 s0 h = some y) (hK : zE g x (some .int) 0 0 157 y.2 (some (0, y.1))) : ZV g x 4 h 17 [(0, (2, l0))] [(0, s0)] := by
  unfold X_say_j17 at hf
  refine z_istore_n X dX11_say_17 (by decide) (ls' := [(1, (0, s0)), (0, (2, l0))]) rfl ?_
  refine z_iconst X dX11_say_18 kc_0 ?_
  refine z_istore_n X dX11_say_19 (by decide) (ls' := [(2, (0, 0)), (1, (0, s0)), (0, (2, l0))]) rfl ?_
  obtain ⟨q20, hq20, hf⟩ := obE hf
  have hx20_0 : ∀ e53 : Int, (e53 : Int) = q20 → ZV g x 4 h 53 [(0, (2, l0)), (1, (0, e53))] [] := by
    intro e53 hq
    subst hq
    refine z_aload_n X dX11_say_53 0 rfl ?_
    obtain ⟨g5, hf⟩ := gif hf
    refine y_get X fl_RX11_14 dX11_say_54 g5 ?_
    obtain ⟨g6, hf⟩ := gif hf
    refine y_get X fl_RX11_118 dX11_say_57 g6 ?_
    refine z_istore_n X dX11_say_60 (by decide) (ls' := [(2, (0, h (h l0 0) 1)), (0, (2, l0)), (1, (0, e53))]) rfl ?_
    refine z_aload_n X dX11_say_61 1 rfl ?_
    refine y_get X fl_RX11_14 dX11_say_62 g5 ?_
    refine z_iconst X dX11_say_65 kc_0 ?_
    refine y_put X fl_RX11_118 dX11_say_66 g6 rfl (by decide) ?_
    let h_1 : Hp := hput h (h l0 0) 1 0
    refine z_iload_n X dX11_say_69 2 rfl ?_
    refine z_if_ne X dX11_say_70 rfl (fun hc70 => ?_) (fun hc70 => ?_)
    · have hf := iff' hc70 hf
      refine z_aload_n X dX11_say_76 1 rfl ?_
      refine y_get X fl_RX11_21 dX11_say_77 g5 ?_
      refine z_iconst X dX11_say_80 kc_0 ?_
      obtain ⟨g7, hf⟩ := gif hf
      refine y_put X fl_RX11_118 dX11_say_81 g7 rfl (by decide) ?_
      let h_2 : Hp := hput h_1 (h_1 l0 2) 1 0
      refine z_iconst X dX11_say_84 kc_0 ?_
      refine z_istore_n X dX11_say_85 (by decide) (ls' := [(3, (0, 0)), (2, (0, h (h l0 0) 1)), (0, (2, l0)), (1, (0, e53))]) rfl ?_
      obtain ⟨q86, hq86, hf⟩ := obE hf
      have hx86_0 : ∀ e116 : Hp, (e116 : Hp) = q86 → ZV g x 4 e116 116 [(0, (2, l0)), (2, (0, h (h l0 0) 1))] [] := by
        intro e116 hq
        subst hq
        refine z_aload_n X dX11_say_116 0 rfl ?_
        refine z_dup X ne2 dX11_say_117 ?_
        refine y_get X fl_RX11_107 dX11_say_118 g5 ?_
        refine z_bipush X dX11_say_121 kb_31 kc_31 ?_
        refine z_iand X dX11_say_123 ?_
        refine y_put X fl_RX11_107 dX11_say_124 g5 rfl (by decide) ?_
        let h_3 : Hp := hput e116 l0 17 (i_and (e116 l0 17) 31)
        refine z_iload_n X dX11_say_127 1 rfl ?_
        cases hf
        exact z_iret X hK dX11_say_128
      exact z_weak [2, 1, 0] rfl (z_loop (Z := (fun q : Int × Hp => ZV g x 4 q.2 86 [(0, (2, l0)), (2, (0, h (h l0 0) 1)), (3, (0, q.1))] [])) (E := fun q => q = q86) (fun q y hb hk => z_X_say_L86 X hd l0 (h (h l0 0) 1) (fun q => q = q86) hx86_0 q.1 q.2 y hb hk) LN (0, h_2) q86 hq86 rfl)
    · have hf := ift hc70 hf
      refine z_bipush X dX11_say_73 kb_m4 kc_m4 ?_
      cases hf
      exact z_iret X hK dX11_say_75
  exact z_weak [2, 1, 0] rfl (z_loop (Z := (fun q : Int × Int => ZV g x 4 h 20 [(0, (2, l0)), (1, (0, q.1)), (2, (0, q.2))] [])) (E := fun q => q = q20) (fun q y hb hk => z_X_say_L20 X hd l0 h (fun q => q = q20) hx20_0 q.1 q.2 y hb hk) LN (s0, 0) q20 hq20 rfl)
set_option maxHeartbeats 4000000 in
set_option maxRecDepth 100000 in
theorem c_X_say {l : Launch} {g : GP} (d : Nat) (hd : 1 ≤ d) (l0 : Int) (h : Hp) (y : Int × Hp) (hf : X_say l0 h = some y) : zM l yX11_say cX11_say 4 (some .int) d 0 0 g 157 h [(2, l0)] 157 y.2 (some (0, y.1)) := by
  obtain ⟨d, rfl⟩ : ∃ k, d = k + 1 := ⟨d - 1, by omega⟩
  replace hd : 0 ≤ d := Nat.le_of_succ_le_succ hd
  refine z_start (by decide) (Nat.le_of_ble_eq_true rfl) (fun x X hK _ _ _ hl => ?_)
  show ZV g x 4 h 0 [(0, (2, l0))] []
  unfold X_say at hf
  refine z_aload_n X dX11_say_0 0 rfl ?_
  obtain ⟨g1, hf⟩ := gif hf
  refine y_get X fl_RX11_14 dX11_say_1 g1 ?_
  obtain ⟨g2, hf⟩ := gif hf
  refine y_get X fl_RX11_118 dX11_say_4 g2 ?_
  refine z_bipush X dX11_say_7 kb_8 kc_8 ?_
  refine z_icmp_gt X dX11_say_9 rfl (fun hc9 => ?_) (fun hc9 => ?_)
  · rw [if_pos hc9] at hf
    refine z_iconst X dX11_say_16 kc_0 ?_
    exact (z_X_say_j17 X hd l0 0 h _ hf hK)
  · rw [if_neg hc9] at hf
    refine z_iconst X dX11_say_12 kc_1 ?_
    refine z_goto X dX11_say_13 rfl ?_
    exact (z_X_say_j17 X hd l0 1 h _ hf hK)
set_option maxHeartbeats 4000000 in
set_option maxRecDepth 100000 in
theorem c_X_count {l : Launch} {g : GP} (d : Nat) (hd : 1 ≤ d) (l0 l1 : Int) (h : Hp) (y : Int) (hf : X_count l0 l1 h = some y) : zM l yX11_count cX11_count 2 (some .int) d 0 0 g 157 h [(2, l0), (0, l1)] 157 h (some (0, y)) := by
  obtain ⟨d, rfl⟩ : ∃ k, d = k + 1 := ⟨d - 1, by omega⟩
  replace hd : 0 ≤ d := Nat.le_of_succ_le_succ hd
  refine z_start (by decide) (Nat.le_of_ble_eq_true rfl) (fun x X hK _ _ _ hl => ?_)
  show ZV g x 2 h 0 [(0, (2, l0)), (1, (0, l1))] []
  unfold X_count at hf
  refine z_iload_n X dX11_count_0 1 rfl ?_
  by_cases hc1_0 : l1 = 0
  · have hf := ift hc1_0 hf
    refine z_tsIn X dX11_count_1 (by omega) (by omega) (by rw [hc1_0]; rfl) rfl ?_
    refine z_aload_n X dX11_count_56 0 rfl ?_
    obtain ⟨g1, hf⟩ := gif hf
    refine y_get X fl_RX11_100 dX11_count_57 g1 ?_
    obtain ⟨g2, hf⟩ := gif hf
    refine y_get X fl_RX11_125 dX11_count_60 g2 ?_
    cases hf
    exact z_iret X hK dX11_count_63
  · have hf := iff' hc1_0 hf
    by_cases hc1_1 : l1 = 1
    · have hf := ift hc1_1 hf
      refine z_tsIn X dX11_count_1 (by omega) (by omega) (by rw [hc1_1]; rfl) rfl ?_
      refine z_aload_n X dX11_count_64 0 rfl ?_
      obtain ⟨g3, hf⟩ := gif hf
      refine y_get X fl_RX11_100 dX11_count_65 g3 ?_
      obtain ⟨g4, hf⟩ := gif hf
      refine y_get X fl_RX11_149 dX11_count_68 g4 ?_
      cases hf
      exact z_iret X hK dX11_count_71
    · have hf := iff' hc1_1 hf
      by_cases hc1_2 : l1 = 2
      · have hf := ift hc1_2 hf
        refine z_tsIn X dX11_count_1 (by omega) (by omega) (by rw [hc1_2]; rfl) rfl ?_
        refine z_aload_n X dX11_count_72 0 rfl ?_
        obtain ⟨g5, hf⟩ := gif hf
        refine y_get X fl_RX11_21 dX11_count_73 g5 ?_
        obtain ⟨g6, hf⟩ := gif hf
        refine y_get X fl_RX11_118 dX11_count_76 g6 ?_
        cases hf
        exact z_iret X hK dX11_count_79
      · have hf := iff' hc1_2 hf
        by_cases hc1_3 : l1 = 3
        · have hf := ift hc1_3 hf
          refine z_tsIn X dX11_count_1 (by omega) (by omega) (by rw [hc1_3]; rfl) rfl ?_
          refine z_aload_n X dX11_count_80 0 rfl ?_
          obtain ⟨g7, hf⟩ := gif hf
          refine y_get X fl_RX11_100 dX11_count_81 g7 ?_
          obtain ⟨g8, hf⟩ := gif hf
          refine y_get X fl_RX11_152 dX11_count_84 g8 ?_
          cases hf
          exact z_iret X hK dX11_count_87
        · have hf := iff' hc1_3 hf
          by_cases hc1_4 : l1 = 4
          · have hf := ift hc1_4 hf
            refine z_tsIn X dX11_count_1 (by omega) (by omega) (by rw [hc1_4]; rfl) rfl ?_
            refine z_aload_n X dX11_count_88 0 rfl ?_
            obtain ⟨g9, hf⟩ := gif hf
            refine y_get X fl_RX11_100 dX11_count_89 g9 ?_
            obtain ⟨g10, hf⟩ := gif hf
            refine y_get X fl_RX11_155 dX11_count_92 g10 ?_
            cases hf
            exact z_iret X hK dX11_count_95
          · have hf := iff' hc1_4 hf
            by_cases hc1_5 : l1 = 5
            · have hf := ift hc1_5 hf
              refine z_tsIn X dX11_count_1 (by omega) (by omega) (by rw [hc1_5]; rfl) rfl ?_
              refine z_aload_n X dX11_count_96 0 rfl ?_
              obtain ⟨g11, hf⟩ := gif hf
              refine y_get X fl_RX11_100 dX11_count_97 g11 ?_
              obtain ⟨g12, hf⟩ := gif hf
              refine y_get X fl_RX11_158 dX11_count_100 g12 ?_
              cases hf
              exact z_iret X hK dX11_count_103
            · have hf := iff' hc1_5 hf
              by_cases hc1_6 : l1 = 6
              · have hf := ift hc1_6 hf
                refine z_tsIn X dX11_count_1 (by omega) (by omega) (by rw [hc1_6]; rfl) rfl ?_
                refine z_aload_n X dX11_count_104 0 rfl ?_
                obtain ⟨g13, hf⟩ := gif hf
                refine y_get X fl_RX11_100 dX11_count_105 g13 ?_
                obtain ⟨g14, hf⟩ := gif hf
                obtain ⟨r108, hr108, hf⟩ := obE hf
                refine y_V1 X cv_RX11_161 dX11_count_108 g14 (c_Gr_startLabel d (Nat.zero_le _) (h l0 15) h r108 hr108) (as := []) rfl rfl (Nat.le_of_ble_eq_true rfl) z00 ?_
                cases hf
                exact z_iret X hK dX11_count_111
              · have hf := iff' hc1_6 hf
                by_cases hc1_7 : l1 = 7
                · have hf := ift hc1_7 hf
                  refine z_tsIn X dX11_count_1 (by omega) (by omega) (by rw [hc1_7]; rfl) rfl ?_
                  refine z_aload_n X dX11_count_112 0 rfl ?_
                  obtain ⟨g15, hf⟩ := gif hf
                  refine y_get X fl_RX11_100 dX11_count_113 g15 ?_
                  obtain ⟨g16, hf⟩ := gif hf
                  refine y_get X fl_RX11_164 dX11_count_116 g16 ?_
                  cases hf
                  exact z_iret X hK dX11_count_119
                · have hf := iff' hc1_7 hf
                  by_cases hc1_8 : l1 = 8
                  · have hf := ift hc1_8 hf
                    refine z_tsIn X dX11_count_1 (by omega) (by omega) (by rw [hc1_8]; rfl) rfl ?_
                    refine z_aload_n X dX11_count_120 0 rfl ?_
                    obtain ⟨g17, hf⟩ := gif hf
                    refine y_get X fl_RX11_14 dX11_count_121 g17 ?_
                    obtain ⟨g18, hf⟩ := gif hf
                    refine y_get X fl_RX11_118 dX11_count_124 g18 ?_
                    cases hf
                    exact z_iret X hK dX11_count_127
                  · have hf := iff' hc1_8 hf
                    by_cases hc1_9 : l1 = 9
                    · have hf := ift hc1_9 hf
                      refine z_tsIn X dX11_count_1 (by omega) (by omega) (by rw [hc1_9]; rfl) rfl ?_
                      refine z_aload_n X dX11_count_128 0 rfl ?_
                      obtain ⟨g19, hf⟩ := gif hf
                      refine y_get X fl_RX11_18 dX11_count_129 g19 ?_
                      obtain ⟨g20, hf⟩ := gif hf
                      refine y_get X fl_RX11_118 dX11_count_132 g20 ?_
                      cases hf
                      exact z_iret X hK dX11_count_135
                    · have hf := iff' hc1_9 hf
                      refine z_tsOut X dX11_count_1 (by omega) rfl ?_
                      refine z_iconst X dX11_count_136 kc_m1 ?_
                      cases hf
                      exact z_iret X hK dX11_count_137
set_option maxHeartbeats 4000000 in
set_option maxRecDepth 100000 in
theorem c_X_tree {l : Launch} {g : GP} (d : Nat) (hd : 1 ≤ d) (l0 l1 l2 : Int) (h : Hp) (y : Int) (hf : X_tree l0 l1 l2 h = some y) : zM l yX11_tree cX11_tree 3 (some .int) d 0 0 g 157 h [(2, l0), (0, l1), (0, l2)] 157 h (some (0, y)) := by
  obtain ⟨d, rfl⟩ : ∃ k, d = k + 1 := ⟨d - 1, by omega⟩
  replace hd : 0 ≤ d := Nat.le_of_succ_le_succ hd
  refine z_start (by decide) (Nat.le_of_ble_eq_true rfl) (fun x X hK _ _ _ hl => ?_)
  show ZV g x 3 h 0 [(0, (2, l0)), (1, (0, l1)), (2, (0, l2))] []
  unfold X_tree at hf
  refine z_aload_n X dX11_tree_0 0 rfl ?_
  obtain ⟨g1, hf⟩ := gif hf
  refine y_get X fl_RX11_100 dX11_tree_1 g1 ?_
  refine z_iload_n X dX11_tree_4 1 rfl ?_
  obtain ⟨g2, hf⟩ := gif hf
  obtain ⟨r5, hr5, hf⟩ := obE hf
  refine y_V1 X cv_RX11_167 dX11_tree_5 g2 (c_Gr_hasTree d (Nat.zero_le _) (h l0 15) l1 h r5 hr5) (as := [(0, l1)]) rfl rfl (Nat.le_of_ble_eq_true rfl) z00 ?_
  refine z_if_ne X dX11_tree_8 rfl (fun hc8 => ?_) (fun hc8 => ?_)
  · have hf := iff' hc8 hf
    refine z_iload_n X dX11_tree_14 2 rfl ?_
    by_cases hc15_0 : l2 = 0
    · have hf := ift hc15_0 hf
      refine z_tsIn X dX11_tree_15 (by omega) (by omega) (by rw [hc15_0]; rfl) rfl ?_
      refine z_aload_n X dX11_tree_52 0 rfl ?_
      refine y_get X fl_RX11_100 dX11_tree_53 g1 ?_
      refine y_get X fl_RX11_155 dX11_tree_56 g2 ?_
      refine z_iload_n X dX11_tree_59 1 rfl ?_
      refine z_ishr X dX11_tree_60 ?_
      refine z_iconst X dX11_tree_61 kc_1 ?_
      refine z_iand X dX11_tree_62 ?_
      cases hf
      exact z_iret X hK dX11_tree_63
    · have hf := iff' hc15_0 hf
      by_cases hc15_1 : l2 = 1
      · have hf := ift hc15_1 hf
        refine z_tsIn X dX11_tree_15 (by omega) (by omega) (by rw [hc15_1]; rfl) rfl ?_
        refine z_aload_n X dX11_tree_64 0 rfl ?_
        refine y_get X fl_RX11_100 dX11_tree_65 g1 ?_
        refine z_iload_n X dX11_tree_68 1 rfl ?_
        obtain ⟨r69, hr69, hf⟩ := obE hf
        refine y_V1 X cv_RX11_170 dX11_tree_69 g2 (c_Gr_sizeOf d (Nat.zero_le _) (h l0 15) l1 h r69 hr69) (as := [(0, l1)]) rfl rfl (Nat.le_of_ble_eq_true rfl) z00 ?_
        cases hf
        exact z_iret X hK dX11_tree_72
      · have hf := iff' hc15_1 hf
        by_cases hc15_2 : l2 = 2
        · have hf := ift hc15_2 hf
          refine z_tsIn X dX11_tree_15 (by omega) (by omega) (by rw [hc15_2]; rfl) rfl ?_
          refine z_aload_n X dX11_tree_73 0 rfl ?_
          refine y_get X fl_RX11_100 dX11_tree_74 g1 ?_
          refine y_get X fl_RX11_173 dX11_tree_77 g2 ?_
          refine z_aload_n X dX11_tree_80 0 rfl ?_
          refine y_get X fl_RX11_100 dX11_tree_81 g1 ?_
          refine y_get X fl_RX11_176 dX11_tree_84 g2 ?_
          refine z_iload_n X dX11_tree_87 1 rfl ?_
          obtain ⟨g3, hf⟩ := gif hf
          refine y_iald X dX11_tree_88 g3 ?_
          obtain ⟨g4, hf⟩ := gif hf
          refine y_iald X dX11_tree_89 g4 ?_
          cases hf
          exact z_iret X hK dX11_tree_90
        · have hf := iff' hc15_2 hf
          by_cases hc15_3 : l2 = 3
          · have hf := ift hc15_3 hf
            refine z_tsIn X dX11_tree_15 (by omega) (by omega) (by rw [hc15_3]; rfl) rfl ?_
            refine z_aload_n X dX11_tree_91 0 rfl ?_
            refine y_get X fl_RX11_100 dX11_tree_92 g1 ?_
            refine z_iload_n X dX11_tree_95 1 rfl ?_
            refine z_iconst X dX11_tree_96 kc_3 ?_
            obtain ⟨r97, hr97, hf⟩ := obE hf
            refine y_V1 X cv_RX11_179 dX11_tree_97 g2 (c_Gr_firstOfKind d (Nat.zero_le _) (h l0 15) l1 3 h r97 hr97) (as := [(0, l1), (0, 3)]) rfl rfl (Nat.le_of_ble_eq_true rfl) z00 ?_
            cases hf
            exact z_iret X hK dX11_tree_100
          · have hf := iff' hc15_3 hf
            by_cases hc15_4 : l2 = 4
            · have hf := ift hc15_4 hf
              refine z_tsIn X dX11_tree_15 (by omega) (by omega) (by rw [hc15_4]; rfl) rfl ?_
              refine z_aload_n X dX11_tree_101 0 rfl ?_
              refine y_get X fl_RX11_100 dX11_tree_102 g1 ?_
              refine z_iload_n X dX11_tree_105 1 rfl ?_
              refine z_iconst X dX11_tree_106 kc_1 ?_
              obtain ⟨r107, hr107, hf⟩ := obE hf
              refine y_V1 X cv_RX11_179 dX11_tree_107 g2 (c_Gr_firstOfKind d (Nat.zero_le _) (h l0 15) l1 1 h r107 hr107) (as := [(0, l1), (0, 1)]) rfl rfl (Nat.le_of_ble_eq_true rfl) z00 ?_
              cases hf
              exact z_iret X hK dX11_tree_110
            · have hf := iff' hc15_4 hf
              by_cases hc15_5 : l2 = 5
              · have hf := ift hc15_5 hf
                refine z_tsIn X dX11_tree_15 (by omega) (by omega) (by rw [hc15_5]; rfl) rfl ?_
                refine z_aload_n X dX11_tree_111 0 rfl ?_
                refine y_get X fl_RX11_100 dX11_tree_112 g1 ?_
                refine z_iload_n X dX11_tree_115 1 rfl ?_
                obtain ⟨r116, hr116, hf⟩ := obE hf
                refine y_V1 X cv_RX11_183 dX11_tree_116 g2 (c_Gr_placesOf d (Nat.zero_le _) (h l0 15) l1 h r116 hr116) (as := [(0, l1)]) rfl rfl (Nat.le_of_ble_eq_true rfl) z00 ?_
                cases hf
                exact z_iret X hK dX11_tree_119
              · have hf := iff' hc15_5 hf
                refine z_tsOut X dX11_tree_15 (by omega) rfl ?_
                refine z_bipush X dX11_tree_120 kb_m2 kc_m2 ?_
                cases hf
                exact z_iret X hK dX11_tree_122
  · have hf := ift hc8 hf
    refine z_bipush X dX11_tree_11 kb_m2 kc_m2 ?_
    cases hf
    exact z_iret X hK dX11_tree_13
set_option maxHeartbeats 4000000 in
set_option maxRecDepth 100000 in
theorem c_X_within {l : Launch} {g : GP} (d : Nat) (hd : 0 ≤ d) (l0 l1 : Int) (h : Hp) (y : Int) (hf : X_within l0 l1 = some y) : zM l yX11_within cX11_within 2 (some .int) d 0 0 g 157 h [(0, l0), (0, l1)] 157 h (some (0, y)) := by
  refine z_start (by decide) (Nat.le_of_ble_eq_true rfl) (fun x X hK _ _ _ hl => ?_)
  show ZV g x 2 h 0 [(0, (0, l0)), (1, (0, l1))] []
  unfold X_within at hf
  refine z_iload_n X dX11_within_0 1 rfl ?_
  refine z_iconst X dX11_within_1 kc_m1 ?_
  refine z_icmp_ne X dX11_within_2 rfl (fun hc2 => ?_) (fun hc2 => ?_)
  · rw [if_neg hc2] at hf
    refine z_iload_n X dX11_within_9 1 rfl ?_
    refine z_iload_n X dX11_within_10 0 rfl ?_
    refine z_isub X dX11_within_11 ?_
    cases hf
    exact z_iret X hK dX11_within_12
  · rw [if_pos hc2] at hf
    refine z_iconst X dX11_within_5 kc_m1 ?_
    refine z_goto X dX11_within_6 rfl ?_
    cases hf
    exact z_iret X hK dX11_within_12
set_option maxHeartbeats 4000000 in
set_option maxRecDepth 100000 in
theorem c_X_node {l : Launch} {g : GP} (d : Nat) (hd : 2 ≤ d) (l0 l1 l2 l3 : Int) (h : Hp) (y : Int) (hf : X_node l0 l1 l2 l3 h = some y) : zM l yX11_node cX11_node 6 (some .int) d 0 0 g 157 h [(2, l0), (0, l1), (0, l2), (0, l3)] 157 h (some (0, y)) := by
  obtain ⟨d, rfl⟩ : ∃ k, d = k + 1 := ⟨d - 1, by omega⟩
  replace hd : 1 ≤ d := Nat.le_of_succ_le_succ hd
  refine z_start (by decide) (Nat.le_of_ble_eq_true rfl) (fun x X hK _ _ _ hl => ?_)
  show ZV g x 6 h 0 [(0, (2, l0)), (1, (0, l1)), (2, (0, l2)), (3, (0, l3))] []
  unfold X_node at hf
  refine z_aload_n X dX11_node_0 0 rfl ?_
  obtain ⟨g1, hf⟩ := gif hf
  refine y_get X fl_RX11_100 dX11_node_1 g1 ?_
  refine z_iload_n X dX11_node_4 1 rfl ?_
  refine z_iload_n X dX11_node_5 2 rfl ?_
  obtain ⟨g2, hf⟩ := gif hf
  obtain ⟨r6, hr6, hf⟩ := obE hf
  refine y_V1 X cv_RX11_186 dX11_node_6 g2 (c_Gr_hasNode d (Nat.le_trans (by decide) hd) (h l0 15) l1 l2 h r6 hr6) (as := [(0, l1), (0, l2)]) rfl rfl (Nat.le_of_ble_eq_true rfl) z00 ?_
  refine z_if_ne X dX11_node_9 rfl (fun hc9 => ?_) (fun hc9 => ?_)
  · have hf := iff' hc9 hf
    refine z_aload_n X dX11_node_15 0 rfl ?_
    refine y_get X fl_RX11_100 dX11_node_16 g1 ?_
    refine y_get X fl_RX11_176 dX11_node_19 g2 ?_
    refine z_iload_n X dX11_node_22 1 rfl ?_
    obtain ⟨g3, hf⟩ := gif hf
    refine y_iald X dX11_node_23 g3 ?_
    refine z_istore X dX11_node_24 (by decide) (ls' := [(4, (0, h (h (h l0 15) 6) l1)), (0, (2, l0)), (1, (0, l1)), (2, (0, l2)), (3, (0, l3))]) rfl ?_
    refine z_iload X dX11_node_26 0 rfl ?_
    refine z_iload_n X dX11_node_28 3 rfl ?_
    refine z_iadd X dX11_node_29 ?_
    refine z_istore X dX11_node_30 (by decide) (ls' := [(5, (0, w32 ((h (h (h l0 15) 6) l1) + l2))), (4, (0, h (h (h l0 15) 6) l1)), (0, (2, l0)), (1, (0, l1)), (2, (0, l2)), (3, (0, l3))]) rfl ?_
    refine z_iload_n X dX11_node_32 5 rfl ?_
    by_cases hc33_0 : l3 = 0
    · have hf := ift hc33_0 hf
      refine z_tsIn X dX11_node_33 (by omega) (by omega) (by rw [hc33_0]; rfl) rfl ?_
      refine z_aload_n X dX11_node_76 2 rfl ?_
      refine y_get X fl_RX11_100 dX11_node_77 g1 ?_
      refine y_get X fl_RX11_190 dX11_node_80 g2 ?_
      refine z_iload X dX11_node_83 0 rfl ?_
      obtain ⟨g4, hf⟩ := gif hf
      refine y_iald X dX11_node_85 g4 ?_
      cases hf
      exact z_iret X hK dX11_node_86
    · have hf := iff' hc33_0 hf
      by_cases hc33_1 : l3 = 1
      · have hf := ift hc33_1 hf
        refine z_tsIn X dX11_node_33 (by omega) (by omega) (by rw [hc33_1]; rfl) rfl ?_
        refine z_aload_n X dX11_node_87 2 rfl ?_
        refine y_get X fl_RX11_100 dX11_node_88 g1 ?_
        refine y_get X fl_RX11_173 dX11_node_91 g2 ?_
        refine z_iload X dX11_node_94 0 rfl ?_
        obtain ⟨g5, hf⟩ := gif hf
        refine y_iald X dX11_node_96 g5 ?_
        cases hf
        exact z_iret X hK dX11_node_97
      · have hf := iff' hc33_1 hf
        by_cases hc33_2 : l3 = 2
        · have hf := ift hc33_2 hf
          refine z_tsIn X dX11_node_33 (by omega) (by omega) (by rw [hc33_2]; rfl) rfl ?_
          refine z_aload_n X dX11_node_98 2 rfl ?_
          refine y_get X fl_RX11_100 dX11_node_99 g1 ?_
          refine y_get X fl_RX11_193 dX11_node_102 g2 ?_
          refine z_iload X dX11_node_105 0 rfl ?_
          obtain ⟨g6, hf⟩ := gif hf
          refine y_iald X dX11_node_107 g6 ?_
          cases hf
          exact z_iret X hK dX11_node_108
        · have hf := iff' hc33_2 hf
          by_cases hc33_3 : l3 = 3
          · have hf := ift hc33_3 hf
            refine z_tsIn X dX11_node_33 (by omega) (by omega) (by rw [hc33_3]; rfl) rfl ?_
            refine z_iload X dX11_node_109 1 rfl ?_
            refine z_aload_n X dX11_node_111 2 rfl ?_
            refine y_get X fl_RX11_100 dX11_node_112 g1 ?_
            refine y_get X fl_RX11_196 dX11_node_115 g2 ?_
            refine z_iload X dX11_node_118 0 rfl ?_
            obtain ⟨g7, hf⟩ := gif hf
            refine y_iald X dX11_node_120 g7 ?_
            obtain ⟨r121, hr121, hf⟩ := obE hf
            refine y_S1 X cs_RX11_199 dX11_node_121 (c_X_within d (Nat.zero_le _) (h (h (h l0 15) 6) l1) (h (h (h l0 15) 11) (w32 ((h (h (h l0 15) 6) l1) + l2))) h r121 hr121) (as := [(0, h (h (h l0 15) 6) l1), (0, h (h (h l0 15) 11) (w32 ((h (h (h l0 15) 6) l1) + l2)))]) rfl rfl (Nat.le_of_ble_eq_true rfl) z00 ?_
            cases hf
            exact z_iret X hK dX11_node_124
          · have hf := iff' hc33_3 hf
            by_cases hc33_4 : l3 = 4
            · have hf := ift hc33_4 hf
              refine z_tsIn X dX11_node_33 (by omega) (by omega) (by rw [hc33_4]; rfl) rfl ?_
              refine z_iload X dX11_node_125 1 rfl ?_
              refine z_aload_n X dX11_node_127 2 rfl ?_
              refine y_get X fl_RX11_100 dX11_node_128 g1 ?_
              refine y_get X fl_RX11_202 dX11_node_131 g2 ?_
              refine z_iload X dX11_node_134 0 rfl ?_
              obtain ⟨g8, hf⟩ := gif hf
              refine y_iald X dX11_node_136 g8 ?_
              obtain ⟨r137, hr137, hf⟩ := obE hf
              refine y_S1 X cs_RX11_199 dX11_node_137 (c_X_within d (Nat.zero_le _) (h (h (h l0 15) 6) l1) (h (h (h l0 15) 12) (w32 ((h (h (h l0 15) 6) l1) + l2))) h r137 hr137) (as := [(0, h (h (h l0 15) 6) l1), (0, h (h (h l0 15) 12) (w32 ((h (h (h l0 15) 6) l1) + l2)))]) rfl rfl (Nat.le_of_ble_eq_true rfl) z00 ?_
              cases hf
              exact z_iret X hK dX11_node_140
            · have hf := iff' hc33_4 hf
              by_cases hc33_5 : l3 = 5
              · have hf := ift hc33_5 hf
                refine z_tsIn X dX11_node_33 (by omega) (by omega) (by rw [hc33_5]; rfl) rfl ?_
                refine z_iload X dX11_node_141 1 rfl ?_
                refine z_aload_n X dX11_node_143 2 rfl ?_
                refine y_get X fl_RX11_100 dX11_node_144 g1 ?_
                refine y_get X fl_RX11_205 dX11_node_147 g2 ?_
                refine z_iload X dX11_node_150 0 rfl ?_
                obtain ⟨g9, hf⟩ := gif hf
                refine y_iald X dX11_node_152 g9 ?_
                obtain ⟨r153, hr153, hf⟩ := obE hf
                refine y_S1 X cs_RX11_199 dX11_node_153 (c_X_within d (Nat.zero_le _) (h (h (h l0 15) 6) l1) (h (h (h l0 15) 13) (w32 ((h (h (h l0 15) 6) l1) + l2))) h r153 hr153) (as := [(0, h (h (h l0 15) 6) l1), (0, h (h (h l0 15) 13) (w32 ((h (h (h l0 15) 6) l1) + l2)))]) rfl rfl (Nat.le_of_ble_eq_true rfl) z00 ?_
                cases hf
                exact z_iret X hK dX11_node_156
              · have hf := iff' hc33_5 hf
                by_cases hc33_6 : l3 = 6
                · have hf := ift hc33_6 hf
                  refine z_tsIn X dX11_node_33 (by omega) (by omega) (by rw [hc33_6]; rfl) rfl ?_
                  refine z_aload_n X dX11_node_157 2 rfl ?_
                  refine y_get X fl_RX11_100 dX11_node_158 g1 ?_
                  refine y_get X fl_RX11_208 dX11_node_161 g2 ?_
                  refine z_iload X dX11_node_164 0 rfl ?_
                  obtain ⟨g10, hf⟩ := gif hf
                  refine y_zald X dX11_node_166 g10 ?_
                  refine z_if_eq X dX11_node_167 rfl (fun hc167 => ?_) (fun hc167 => ?_)
                  · rw [if_pos hc167] at hf
                    refine z_iconst X dX11_node_174 kc_0 ?_
                    cases hf
                    exact z_iret X hK dX11_node_175
                  · rw [if_neg hc167] at hf
                    refine z_iconst X dX11_node_170 kc_1 ?_
                    refine z_goto X dX11_node_171 rfl ?_
                    cases hf
                    exact z_iret X hK dX11_node_175
                · have hf := iff' hc33_6 hf
                  refine z_tsOut X dX11_node_33 (by omega) rfl ?_
                  refine z_bipush X dX11_node_176 kb_m2 kc_m2 ?_
                  cases hf
                  exact z_iret X hK dX11_node_178
  · have hf := ift hc9 hf
    refine z_bipush X dX11_node_12 kb_m2 kc_m2 ?_
    cases hf
    exact z_iret X hK dX11_node_14
set_option maxHeartbeats 4000000 in
set_option maxRecDepth 100000 in
theorem c_X_out {l : Launch} {g : GP} (d : Nat) (hd : 1 ≤ d) (l0 l1 l2 : Int) (h : Hp) (y : Int × Hp) (hf : X_out l0 l1 l2 h = some y) : zM l yX11_out cX11_out 3 (some .int) d 0 0 g 157 h [(2, l0), (0, l1), (0, l2)] 157 y.2 (some (0, y.1)) := by
  obtain ⟨d, rfl⟩ : ∃ k, d = k + 1 := ⟨d - 1, by omega⟩
  replace hd : 0 ≤ d := Nat.le_of_succ_le_succ hd
  refine z_start (by decide) (Nat.le_of_ble_eq_true rfl) (fun x X hK _ _ _ hl => ?_)
  show ZV g x 3 h 0 [(0, (2, l0)), (1, (0, l1)), (2, (0, l2))] []
  unfold X_out at hf
  refine z_aload_n X dX11_out_0 0 rfl ?_
  obtain ⟨g1, hf⟩ := gif hf
  refine y_get X fl_RX11_100 dX11_out_1 g1 ?_
  refine z_iload_n X dX11_out_4 1 rfl ?_
  obtain ⟨g2, hf⟩ := gif hf
  obtain ⟨r5, hr5, hf⟩ := obE hf
  refine y_V1 X cv_RX11_167 dX11_out_5 g2 (c_Gr_hasTree d (Nat.zero_le _) (h l0 15) l1 h r5 hr5) (as := [(0, l1)]) rfl rfl (Nat.le_of_ble_eq_true rfl) z00 ?_
  refine z_if_eq X dX11_out_8 rfl (fun hc8 => ?_) (fun hc8 => ?_)
  · have hf := ift hc8 hf
    refine z_bipush X dX11_out_20 kb_m2 kc_m2 ?_
    cases hf
    exact z_iret X hK dX11_out_22
  · have hf := iff' hc8 hf
    refine z_iload_n X dX11_out_11 2 rfl ?_
    refine z_if_lt X dX11_out_12 rfl (fun hc12 => ?_) (fun hc12 => ?_)
    · have hf := ift hc12 hf
      refine z_bipush X dX11_out_20 kb_m2 kc_m2 ?_
      cases hf
      exact z_iret X hK dX11_out_22
    · have hf := iff' hc12 hf
      refine z_iload_n X dX11_out_15 2 rfl ?_
      refine z_iconst X dX11_out_16 kc_1 ?_
      refine z_icmp_le X dX11_out_17 rfl (fun hc17 => ?_) (fun hc17 => ?_)
      · have hf := ift hc17 hf
        refine z_aload_n X dX11_out_23 0 rfl ?_
        refine y_get X fl_RX11_100 dX11_out_24 g1 ?_
        refine y_get X fl_RX11_158 dX11_out_27 g2 ?_
        refine z_iload_n X dX11_out_30 1 rfl ?_
        refine z_ishr X dX11_out_31 ?_
        refine z_iconst X dX11_out_32 kc_1 ?_
        refine z_iand X dX11_out_33 ?_
        refine z_iload_n X dX11_out_34 2 rfl ?_
        refine z_icmp_ne X dX11_out_35 rfl (fun hc35 => ?_) (fun hc35 => ?_)
        · have hf := iff' hc35 hf
          refine z_aload_n X dX11_out_40 0 rfl ?_
          refine y_get X fl_RX11_100 dX11_out_41 g1 ?_
          refine z_dup X ne2 dX11_out_44 ?_
          refine y_get X fl_RX11_158 dX11_out_45 g2 ?_
          refine z_iconst X dX11_out_48 kc_1 ?_
          refine z_iload_n X dX11_out_49 1 rfl ?_
          refine z_ishl X dX11_out_50 ?_
          refine z_ixor X dX11_out_51 ?_
          refine y_put X fl_RX11_158 dX11_out_52 g2 rfl (by decide) ?_
          let h_1 : Hp := hput h (h l0 15) 4 (i_xor (h (h l0 15) 4) (i_shl 1 l1))
          refine z_aload_n X dX11_out_55 0 rfl ?_
          refine z_iconst X dX11_out_56 kc_0 ?_
          refine y_put X fl_RX11_107 dX11_out_57 g1 rfl (by decide) ?_
          let h_2 : Hp := hput h_1 l0 17 0
          refine z_iconst X dX11_out_60 kc_1 ?_
          cases hf
          exact z_iret X hK dX11_out_61
        · have hf := ift hc35 hf
          refine z_iconst X dX11_out_38 kc_0 ?_
          cases hf
          exact z_iret X hK dX11_out_39
      · have hf := iff' hc17 hf
        refine z_bipush X dX11_out_20 kb_m2 kc_m2 ?_
        cases hf
        exact z_iret X hK dX11_out_22
set_option maxHeartbeats 4000000 in
set_option maxRecDepth 100000 in
theorem c_X_marks {l : Launch} {g : GP} (d : Nat) (hd : 2 ≤ d) (l0 l1 l2 l3 : Int) (h : Hp) (y : Int × Hp) (hf : X_marks l0 l1 l2 l3 h = some y) : zM l yX11_marks cX11_marks 6 (some .int) d 0 0 g 157 h [(2, l0), (0, l1), (0, l2), (0, l3)] 157 y.2 (some (0, y.1)) := by
  obtain ⟨d, rfl⟩ : ∃ k, d = k + 1 := ⟨d - 1, by omega⟩
  replace hd : 1 ≤ d := Nat.le_of_succ_le_succ hd
  refine z_start (by decide) (Nat.le_of_ble_eq_true rfl) (fun x X hK _ _ _ hl => ?_)
  show ZV g x 6 h 0 [(0, (2, l0)), (1, (0, l1)), (2, (0, l2)), (3, (0, l3))] []
  unfold X_marks at hf
  refine z_aload_n X dX11_marks_0 0 rfl ?_
  obtain ⟨g1, hf⟩ := gif hf
  refine y_get X fl_RX11_100 dX11_marks_1 g1 ?_
  refine z_iload_n X dX11_marks_4 1 rfl ?_
  refine z_iload_n X dX11_marks_5 2 rfl ?_
  obtain ⟨g2, hf⟩ := gif hf
  obtain ⟨r6, hr6, hf⟩ := obE hf
  refine y_V1 X cv_RX11_186 dX11_marks_6 g2 (c_Gr_hasNode d (Nat.le_trans (by decide) hd) (h l0 15) l1 l2 h r6 hr6) (as := [(0, l1), (0, l2)]) rfl rfl (Nat.le_of_ble_eq_true rfl) z00 ?_
  refine z_if_eq X dX11_marks_9 rfl (fun hc9 => ?_) (fun hc9 => ?_)
  · have hf := ift hc9 hf
    refine z_bipush X dX11_marks_21 kb_m2 kc_m2 ?_
    cases hf
    exact z_iret X hK dX11_marks_23
  · have hf := iff' hc9 hf
    refine z_iload_n X dX11_marks_12 3 rfl ?_
    refine z_if_lt X dX11_marks_13 rfl (fun hc13 => ?_) (fun hc13 => ?_)
    · have hf := ift hc13 hf
      refine z_bipush X dX11_marks_21 kb_m2 kc_m2 ?_
      cases hf
      exact z_iret X hK dX11_marks_23
    · have hf := iff' hc13 hf
      refine z_iload_n X dX11_marks_16 3 rfl ?_
      refine z_iconst X dX11_marks_17 kc_2 ?_
      refine z_icmp_le X dX11_marks_18 rfl (fun hc18 => ?_) (fun hc18 => ?_)
      · have hf := ift hc18 hf
        refine z_aload_n X dX11_marks_24 0 rfl ?_
        refine y_get X fl_RX11_100 dX11_marks_25 g1 ?_
        refine y_get X fl_RX11_176 dX11_marks_28 g2 ?_
        refine z_iload_n X dX11_marks_31 1 rfl ?_
        obtain ⟨g3, hf⟩ := gif hf
        refine y_iald X dX11_marks_32 g3 ?_
        refine z_iload_n X dX11_marks_33 2 rfl ?_
        refine z_iadd X dX11_marks_34 ?_
        refine z_istore X dX11_marks_35 (by decide) (ls' := [(4, (0, w32 ((h (h (h l0 15) 6) l1) + l2))), (0, (2, l0)), (1, (0, l1)), (2, (0, l2)), (3, (0, l3))]) rfl ?_
        refine z_aload_n X dX11_marks_37 1 rfl ?_
        refine y_get X fl_RX11_100 dX11_marks_38 g1 ?_
        refine y_get X fl_RX11_190 dX11_marks_41 g2 ?_
        refine z_iload X dX11_marks_44 0 rfl ?_
        obtain ⟨g4, hf⟩ := gif hf
        refine y_iald X dX11_marks_46 g4 ?_
        refine z_if_eq X dX11_marks_47 rfl (fun hc47 => ?_) (fun hc47 => ?_)
        · have hf := ift hc47 hf
          refine z_aload_n X dX11_marks_53 1 rfl ?_
          refine y_get X fl_RX11_100 dX11_marks_54 g1 ?_
          refine y_get X fl_RX11_193 dX11_marks_57 g2 ?_
          refine z_iload X dX11_marks_60 0 rfl ?_
          obtain ⟨g5, hf⟩ := gif hf
          refine y_iald X dX11_marks_62 g5 ?_
          refine z_istore X dX11_marks_63 (by decide) (ls' := [(5, (0, h (h (h l0 15) 10) (w32 ((h (h (h l0 15) 6) l1) + l2)))), (4, (0, w32 ((h (h (h l0 15) 6) l1) + l2))), (0, (2, l0)), (1, (0, l1)), (2, (0, l2)), (3, (0, l3))]) rfl ?_
          refine z_aload_n X dX11_marks_65 2 rfl ?_
          refine y_get X fl_RX11_100 dX11_marks_66 g1 ?_
          refine y_get X fl_RX11_193 dX11_marks_69 g2 ?_
          refine z_iload X dX11_marks_72 1 rfl ?_
          refine z_iload_n X dX11_marks_74 5 rfl ?_
          refine y_iast X dX11_marks_75 g5 ?_
          let h_1 : Hp := hput h (h (h l0 15) 10) (w32 ((h (h (h l0 15) 6) l1) + l2)) l3
          refine z_iload X dX11_marks_76 0 rfl ?_
          refine z_iload_n X dX11_marks_78 5 rfl ?_
          refine z_icmp_eq X dX11_marks_79 rfl (fun hc79 => ?_) (fun hc79 => ?_)
          · have hf := ift hc79 hf
            refine z_iload X dX11_marks_87 0 rfl ?_
            cases hf
            exact z_iret X hK dX11_marks_89
          · have hf := iff' hc79 hf
            refine z_aload_n X dX11_marks_82 2 rfl ?_
            refine z_iconst X dX11_marks_83 kc_0 ?_
            refine y_put X fl_RX11_107 dX11_marks_84 g1 rfl (by decide) ?_
            let h_2 : Hp := hput h_1 l0 17 0
            refine z_iload X dX11_marks_87 0 rfl ?_
            cases hf
            exact z_iret X hK dX11_marks_89
        · have hf := iff' hc47 hf
          refine z_bipush X dX11_marks_50 kb_m2 kc_m2 ?_
          cases hf
          exact z_iret X hK dX11_marks_52
      · have hf := iff' hc18 hf
        refine z_bipush X dX11_marks_21 kb_m2 kc_m2 ?_
        cases hf
        exact z_iret X hK dX11_marks_23
set_option maxHeartbeats 4000000 in
set_option maxRecDepth 100000 in
theorem z_X_isSpan_j25 {g : GP} {x : CX} {d : Nat} (X : zX g x RX11 cX11_isSpan 3 d) (h : Hp) (y : Int) (hf : X_isSpan_j25 h = some y) (hK : zE g x (some .boolean) 0 0 157 h (some (0, y))) : ZV g x 3 h 25 [] [] := by
  unfold X_isSpan_j25 at hf
  refine z_iconst X dX11_isSpan_25 kc_0 ?_
  cases hf
  exact z_zret X hK (Or.inl rfl) dX11_isSpan_26
set_option maxHeartbeats 4000000 in
set_option maxRecDepth 100000 in
theorem c_X_isSpan {l : Launch} {g : GP} (d : Nat) (hd : 0 ≤ d) (l0 l1 l2 : Int) (h : Hp) (y : Int) (hf : X_isSpan l0 l1 l2 h = some y) : zM l yX11_isSpan cX11_isSpan 3 (some .boolean) d 0 0 g 157 h [(2, l0), (0, l1), (0, l2)] 157 h (some (0, y)) := by
  refine z_start (by decide) (Nat.le_of_ble_eq_true rfl) (fun x X hK _ _ _ hl => ?_)
  show ZV g x 3 h 0 [(0, (2, l0)), (1, (0, l1)), (2, (0, l2))] []
  unfold X_isSpan at hf
  refine z_iconst X dX11_isSpan_0 kc_0 ?_
  refine z_iload_n X dX11_isSpan_1 1 rfl ?_
  refine z_icmp_gt X dX11_isSpan_2 rfl (fun hc2 => ?_) (fun hc2 => ?_)
  · have hf := ift hc2 hf
    exact z_weak [] rfl (z_X_isSpan_j25 X  h _ hf hK)
  · have hf := iff' hc2 hf
    refine z_iload_n X dX11_isSpan_5 1 rfl ?_
    refine z_iload_n X dX11_isSpan_6 2 rfl ?_
    refine z_icmp_gt X dX11_isSpan_7 rfl (fun hc7 => ?_) (fun hc7 => ?_)
    · have hf := ift hc7 hf
      exact z_weak [] rfl (z_X_isSpan_j25 X  h _ hf hK)
    · have hf := iff' hc7 hf
      refine z_iload_n X dX11_isSpan_10 2 rfl ?_
      refine z_aload_n X dX11_isSpan_11 0 rfl ?_
      obtain ⟨g1, hf⟩ := gif hf
      refine y_get X fl_RX11_21 dX11_isSpan_12 g1 ?_
      obtain ⟨g2, hf⟩ := gif hf
      refine y_get X fl_RX11_118 dX11_isSpan_15 g2 ?_
      refine z_icmp_gt X dX11_isSpan_18 rfl (fun hc18 => ?_) (fun hc18 => ?_)
      · have hf := ift hc18 hf
        exact z_weak [] rfl (z_X_isSpan_j25 X  h _ hf hK)
      · have hf := iff' hc18 hf
        refine z_iconst X dX11_isSpan_21 kc_1 ?_
        refine z_goto X dX11_isSpan_22 rfl ?_
        cases hf
        exact z_zret X hK (Or.inr rfl) dX11_isSpan_26
set_option maxHeartbeats 4000000 in
set_option maxRecDepth 100000 in
theorem z_X_isGap_j30 {g : GP} {x : CX} {d : Nat} (X : zX g x RX11 cX11_isGap 5 (d + 1)) (hd : 0 ≤ d) (h : Hp) (y : Int) (hf : X_isGap_j30 h = some y) (hK : zE g x (some .boolean) 0 0 157 h (some (0, y))) : ZV g x 5 h 30 [] [] := by
  unfold X_isGap_j30 at hf
  refine z_iconst X dX11_isGap_30 kc_0 ?_
  cases hf
  exact z_zret X hK (Or.inl rfl) dX11_isGap_31
set_option maxHeartbeats 4000000 in
set_option maxRecDepth 100000 in
theorem c_X_isGap {l : Launch} {g : GP} (d : Nat) (hd : 1 ≤ d) (l0 l1 l2 l3 l4 : Int) (h : Hp) (y : Int) (hf : X_isGap l0 l1 l2 l3 l4 h = some y) : zM l yX11_isGap cX11_isGap 5 (some .boolean) d 0 0 g 157 h [(2, l0), (0, l1), (0, l2), (0, l3), (0, l4)] 157 h (some (0, y)) := by
  obtain ⟨d, rfl⟩ : ∃ k, d = k + 1 := ⟨d - 1, by omega⟩
  replace hd : 0 ≤ d := Nat.le_of_succ_le_succ hd
  refine z_start (by decide) (Nat.le_of_ble_eq_true rfl) (fun x X hK _ _ _ hl => ?_)
  show ZV g x 5 h 0 [(0, (2, l0)), (1, (0, l1)), (2, (0, l2)), (3, (0, l3)), (4, (0, l4))] []
  unfold X_isGap at hf
  refine z_aload_n X dX11_isGap_0 0 rfl ?_
  refine z_iload_n X dX11_isGap_1 1 rfl ?_
  refine z_iload_n X dX11_isGap_2 2 rfl ?_
  obtain ⟨g1, hf⟩ := gif hf
  obtain ⟨r3, hr3, hf⟩ := obE hf
  refine y_V1 X cv_RX11_218 dX11_isGap_3 g1 (c_X_isSpan d (Nat.zero_le _) l0 l1 l2 h r3 hr3) (as := [(0, l1), (0, l2)]) rfl rfl (Nat.le_of_ble_eq_true rfl) z00 ?_
  refine z_if_eq X dX11_isGap_6 rfl (fun hc6 => ?_) (fun hc6 => ?_)
  · have hf := ift hc6 hf
    exact z_weak [] rfl (z_X_isGap_j30 X hd  h _ hf hK)
  · have hf := iff' hc6 hf
    refine z_iload_n X dX11_isGap_9 1 rfl ?_
    refine z_iload_n X dX11_isGap_10 3 rfl ?_
    refine z_icmp_gt X dX11_isGap_11 rfl (fun hc11 => ?_) (fun hc11 => ?_)
    · have hf := ift hc11 hf
      exact z_weak [] rfl (z_X_isGap_j30 X hd  h _ hf hK)
    · have hf := iff' hc11 hf
      refine z_iload_n X dX11_isGap_14 3 rfl ?_
      refine z_iload X dX11_isGap_15 4 rfl ?_
      refine z_icmp_gt X dX11_isGap_17 rfl (fun hc17 => ?_) (fun hc17 => ?_)
      · have hf := ift hc17 hf
        exact z_weak [] rfl (z_X_isGap_j30 X hd  h _ hf hK)
      · have hf := iff' hc17 hf
        refine z_iload X dX11_isGap_20 4 rfl ?_
        refine z_iload_n X dX11_isGap_22 2 rfl ?_
        refine z_icmp_gt X dX11_isGap_23 rfl (fun hc23 => ?_) (fun hc23 => ?_)
        · have hf := ift hc23 hf
          exact z_weak [] rfl (z_X_isGap_j30 X hd  h _ hf hK)
        · have hf := iff' hc23 hf
          refine z_iconst X dX11_isGap_26 kc_1 ?_
          refine z_goto X dX11_isGap_27 rfl ?_
          cases hf
          exact z_zret X hK (Or.inr rfl) dX11_isGap_31
set_option maxHeartbeats 4000000 in
set_option maxRecDepth 100000 in
theorem z_X_learns_j14 {g : GP} {x : CX} {d : Nat} (X : zX g x RX11 cX11_learns 3 d) (l0 l1 s0 : Int) (h : Hp) (y : Int × Hp) (hf : X_learns_j14 l0 l1 s0 h = some y) (hK : zE g x (some .boolean) 0 0 157 y.2 (some (0, y.1))) : ZV g x 3 h 14 [(0, (2, l0)), (1, (0, l1))] [(0, s0)] := by
  unfold X_learns_j14 at hf
  refine z_istore_n X dX11_learns_14 (by decide) (ls' := [(2, (0, s0)), (0, (2, l0)), (1, (0, l1))]) rfl ?_
  refine z_aload_n X dX11_learns_15 1 rfl ?_
  refine z_dup X ne2 dX11_learns_16 ?_
  obtain ⟨g2, hf⟩ := gif hf
  refine y_get X fl_RX11_107 dX11_learns_17 g2 ?_
  refine z_iload_n X dX11_learns_20 2 rfl ?_
  refine z_ior X dX11_learns_21 ?_
  refine y_put X fl_RX11_107 dX11_learns_22 g2 rfl (by decide) ?_
  let h_1 : Hp := hput h l0 17 (i_or (h l0 17) l1)
  refine z_iload_n X dX11_learns_25 0 rfl ?_
  obtain ⟨g3, hf⟩ := gif hf
  cases hf
  exact z_zret X hK g3 dX11_learns_26
set_option maxHeartbeats 4000000 in
set_option maxRecDepth 100000 in
theorem c_X_learns {l : Launch} {g : GP} (d : Nat) (hd : 0 ≤ d) (l0 l1 : Int) (h : Hp) (y : Int × Hp) (hf : X_learns l0 l1 h = some y) : zM l yX11_learns cX11_learns 3 (some .boolean) d 0 0 g 157 h [(2, l0), (0, l1)] 157 y.2 (some (0, y.1)) := by
  refine z_start (by decide) (Nat.le_of_ble_eq_true rfl) (fun x X hK _ _ _ hl => ?_)
  show ZV g x 3 h 0 [(0, (2, l0)), (1, (0, l1))] []
  unfold X_learns at hf
  refine z_aload_n X dX11_learns_0 0 rfl ?_
  obtain ⟨g1, hf⟩ := gif hf
  refine y_get X fl_RX11_107 dX11_learns_1 g1 ?_
  refine z_iload_n X dX11_learns_4 1 rfl ?_
  refine z_iand X dX11_learns_5 ?_
  refine z_if_ne X dX11_learns_6 rfl (fun hc6 => ?_) (fun hc6 => ?_)
  · rw [if_neg hc6] at hf
    refine z_iconst X dX11_learns_13 kc_0 ?_
    exact (z_X_learns_j14 X l0 l1 0 h _ hf hK)
  · rw [if_pos hc6] at hf
    refine z_iconst X dX11_learns_9 kc_1 ?_
    refine z_goto X dX11_learns_10 rfl ?_
    exact (z_X_learns_j14 X l0 l1 1 h _ hf hK)
set_option maxHeartbeats 4000000 in
set_option maxRecDepth 100000 in
theorem c_X_knowCounts {l : Launch} {g : GP} (d : Nat) (hd : 5 ≤ d) (l0 : Int) (h : Hp) (y : Hp) (hf : X_knowCounts l0 h = some y) : zM l yX11_knowCounts cX11_knowCounts 1 none d 0 0 g 157 h [(2, l0)] 157 y none := by
  obtain ⟨d, rfl⟩ : ∃ k, d = k + 1 := ⟨d - 1, by omega⟩
  replace hd : 4 ≤ d := Nat.le_of_succ_le_succ hd
  refine z_start (by decide) (Nat.le_of_ble_eq_true rfl) (fun x X hK _ _ _ hl => ?_)
  show ZV g x 1 h 0 [(0, (2, l0))] []
  unfold X_knowCounts at hf
  refine z_aload_n X dX11_knowCounts_0 0 rfl ?_
  refine z_bipush X dX11_knowCounts_1 kb_64 kc_64 ?_
  obtain ⟨g1, hf⟩ := gif hf
  obtain ⟨r3, hr3, hf⟩ := obE hf
  refine y_V1 X cv_RX11_352 dX11_knowCounts_3 g1 (c_X_learns d (Nat.zero_le _) l0 64 h r3 hr3) (as := [(0, 64)]) rfl rfl (Nat.le_of_ble_eq_true rfl) z00 ?_
  refine z_if_eq X dX11_knowCounts_6 rfl (fun hc6 => ?_) (fun hc6 => ?_)
  · have hf := ift hc6 hf
    cases hf
    exact z_vret X hK dX11_knowCounts_38
  · have hf := iff' hc6 hf
    refine z_aload_n X dX11_knowCounts_9 0 rfl ?_
    refine y_get X fl_RX11_64 dX11_knowCounts_10 g1 ?_
    refine z_aload_n X dX11_knowCounts_13 0 rfl ?_
    refine y_get X fl_RX11_100 dX11_knowCounts_14 g1 ?_
    refine z_aload_n X dX11_knowCounts_17 0 rfl ?_
    refine y_get X fl_RX11_100 dX11_knowCounts_18 g1 ?_
    obtain ⟨g2, hf⟩ := gif hf
    refine y_get X fl_RX11_158 dX11_knowCounts_21 g2 ?_
    refine z_aload_n X dX11_knowCounts_24 0 rfl ?_
    refine y_get X fl_RX11_21 dX11_knowCounts_25 g1 ?_
    obtain ⟨g3, hf⟩ := gif hf
    refine y_get X fl_RX11_118 dX11_knowCounts_28 g3 ?_
    refine z_aload_n X dX11_knowCounts_31 0 rfl ?_
    refine y_get X fl_RX11_43 dX11_knowCounts_32 g1 ?_
    obtain ⟨g4, hf⟩ := gif hf
    obtain ⟨r35, hr35, hf⟩ := obE hf
    refine y_V0 X cv_RX11_247 dX11_knowCounts_35 g4 (c_Ch_fill d (Nat.le_trans (by decide) hd) (r3.2 l0 8) (r3.2 l0 15) (r3.2 (r3.2 l0 15) 4) (r3.2 (r3.2 l0 2) 1) (r3.2 l0 5) r3.2 r35 hr35) (as := [(2, r3.2 l0 15), (0, r3.2 (r3.2 l0 15) 4), (0, r3.2 (r3.2 l0 2) 1), (2, r3.2 l0 5)]) rfl rfl (Nat.le_of_ble_eq_true rfl) z00 ?_
    cases hf
    exact z_vret X hK dX11_knowCounts_38
set_option maxHeartbeats 4000000 in
set_option maxRecDepth 100000 in
theorem c_X_shown {l : Launch} {g : GP} (d : Nat) (hd : 0 ≤ d) (l0 : Int) (h : Hp) (y : Int) (hf : X_shown l0 = some y) : zM l yX11_shown cX11_shown 2 (some .long) d 0 0 g 157 h [(1, l0)] 157 h (some (1, y)) := by
  refine z_start (by decide) (Nat.le_of_ble_eq_true rfl) (fun x X hK _ _ _ hl => ?_)
  show ZV g x 2 h 0 [(0, (1, l0))] []
  unfold X_shown at hf
  refine z_lload_n X dX11_shown_0 0 rfl ?_
  refine z_ldc2 X kj_RX11_348 kl_1000000000000000 dX11_shown_1 ?_
  refine z_l_le X dX11_shown_4 dX11_shown_5 rfl (fun hc4 => ?_) (fun hc4 => ?_)
  · rw [if_pos hc4] at hf
    refine z_lload_n X dX11_shown_14 0 rfl ?_
    cases hf
    exact z_lret X hK dX11_shown_15
  · rw [if_neg hc4] at hf
    refine z_ldc2 X kj_RX11_350 kl_m3 dX11_shown_8 ?_
    refine z_goto X dX11_shown_11 rfl ?_
    cases hf
    exact z_lret X hK dX11_shown_15
set_option maxHeartbeats 4000000 in
set_option maxRecDepth 100000 in
theorem z_X_over_j139 {g : GP} {x : CX} {d : Nat} (X : zX g x RX11 cX11_over 10 (d + 1)) (hd : 5 ≤ d) (s0 s1 s2 s3 s4 s5 s6 : Int) (h : Hp) (y : Int × Hp) (hf : X_over_j139 s0 s1 s2 s3 s4 s5 s6 h = some y) (hK : zE g x (some .long) 0 0 157 y.2 (some (1, y.1))) : ZV g x 10 h 139 [] [(0, s0), (0, s1), (0, s2), (0, s3), (0, s4), (0, s5), (2, s6)] := by
  unfold X_over_j139 at hf
  obtain ⟨g6, hf⟩ := gif hf
  obtain ⟨r139, hr139, hf⟩ := obE hf
  refine y_V1 X cv_RX11_224 dX11_over_139 g6 (c_Ch_value d (Nat.le_trans (by decide) hd) s6 s5 s4 s3 s2 s1 s0 h r139 hr139) (as := [(0, s5), (0, s4), (0, s3), (0, s2), (0, s1), (0, s0)]) rfl rfl (Nat.le_of_ble_eq_true rfl) z00 ?_
  obtain ⟨r142, hr142, hf⟩ := obE hf
  refine y_S1 X cs_RX11_228 dX11_over_142 (c_X_shown d (Nat.zero_le _) r139 h r142 hr142) (as := [(1, r139)]) rfl rfl (Nat.le_of_ble_eq_true rfl) z00 ?_
  cases hf
  exact z_lret X hK dX11_over_145
set_option maxHeartbeats 4000000 in
set_option maxRecDepth 100000 in
theorem z_X_over_j127 {g : GP} {x : CX} {d : Nat} (X : zX g x RX11 cX11_over 10 (d + 1)) (hd : 5 ≤ d) (l5 l7 l9 s0 s1 s2 s3 s4 s5 : Int) (h : Hp) (y : Int × Hp) (hf : X_over_j127 l5 l7 l9 s0 s1 s2 s3 s4 s5 h = some y) (hK : zE g x (some .long) 0 0 157 y.2 (some (1, y.1))) : ZV g x 10 h 127 [(5, (0, l5)), (7, (0, l7)), (9, (0, l9))] [(0, s0), (0, s1), (0, s2), (0, s3), (0, s4), (2, s5)] := by
  unfold X_over_j127 at hf
  refine z_iload X dX11_over_127 2 rfl ?_
  refine z_if_eq X dX11_over_129 rfl (fun hc129 => ?_) (fun hc129 => ?_)
  · rw [if_pos hc129] at hf
    refine z_iload X dX11_over_137 0 rfl ?_
    exact z_weak [] rfl (z_X_over_j139 X hd l5 s0 s1 s2 s3 s4 s5 h _ hf hK)
  · rw [if_neg hc129] at hf
    refine z_iload X dX11_over_132 1 rfl ?_
    refine z_goto X dX11_over_134 rfl ?_
    exact z_weak [] rfl (z_X_over_j139 X hd l7 s0 s1 s2 s3 s4 s5 h _ hf hK)
set_option maxHeartbeats 4000000 in
set_option maxRecDepth 100000 in
theorem z_X_over_j100 {g : GP} {x : CX} {d : Nat} (X : zX g x RX11 cX11_over 10 (d + 1)) (hd : 5 ≤ d) (l0 l3 l4 l5 l6 l7 l8 l9 : Int) (h : Hp) (y : Int × Hp) (hf : X_over_j100 l0 l3 l4 l5 l6 l7 l8 l9 h = some y) (hK : zE g x (some .long) 0 0 157 y.2 (some (1, y.1))) : ZV g x 10 h 100 [(0, (2, l0)), (3, (0, l3)), (4, (0, l4)), (5, (0, l5)), (6, (0, l6)), (7, (0, l7)), (8, (0, l8)), (9, (0, l9))] [] := by
  unfold X_over_j100 at hf
  refine z_aload_n X dX11_over_100 0 rfl ?_
  obtain ⟨g5, hf⟩ := gif hf
  obtain ⟨r101, hr101, hf⟩ := obE hf
  refine y_V0 X cv_RX11_221 dX11_over_101 g5 (c_X_knowCounts d (Nat.le_trans (by decide) hd) l0 h r101 hr101) (as := []) rfl rfl (Nat.le_of_ble_eq_true rfl) z00 ?_
  refine z_aload_n X dX11_over_104 0 rfl ?_
  refine y_get X fl_RX11_64 dX11_over_105 g5 ?_
  refine z_iload X dX11_over_108 6 rfl ?_
  refine z_iload_n X dX11_over_110 1 rfl ?_
  refine z_iload X dX11_over_111 2 rfl ?_
  refine z_iload X dX11_over_113 3 rfl ?_
  refine z_iload X dX11_over_115 7 rfl ?_
  refine z_if_eq X dX11_over_117 rfl (fun hc117 => ?_) (fun hc117 => ?_)
  · rw [if_pos hc117] at hf
    refine z_iload X dX11_over_125 3 rfl ?_
    exact z_weak [3, 5, 7] rfl (z_X_over_j127 X hd l5 l7 l9 l5 l5 l4 l3 l8 (r101 l0 8) r101 _ hf hK)
  · rw [if_neg hc117] at hf
    refine z_iload X dX11_over_120 4 rfl ?_
    refine z_goto X dX11_over_122 rfl ?_
    exact z_weak [3, 5, 7] rfl (z_X_over_j127 X hd l5 l7 l9 l6 l5 l4 l3 l8 (r101 l0 8) r101 _ hf hK)
set_option maxHeartbeats 4000000 in
set_option maxRecDepth 100000 in
theorem c_X_over {l : Launch} {g : GP} (d : Nat) (hd : 6 ≤ d) (l0 l1 l2 l3 l4 l5 l6 l7 : Int) (h : Hp) (y : Int × Hp) (hf : X_over l0 l1 l2 l3 l4 l5 l6 l7 h = some y) : zM l yX11_over cX11_over 10 (some .long) d 0 0 g 157 h [(2, l0), (0, l1), (0, l2), (0, l3), (0, l4), (0, l5), (0, l6), (0, l7)] 157 y.2 (some (1, y.1)) := by
  obtain ⟨d, rfl⟩ : ∃ k, d = k + 1 := ⟨d - 1, by omega⟩
  replace hd : 5 ≤ d := Nat.le_of_succ_le_succ hd
  refine z_start (by decide) (Nat.le_of_ble_eq_true rfl) (fun x X hK _ _ _ hl => ?_)
  show ZV g x 10 h 0 [(0, (2, l0)), (1, (0, l1)), (2, (0, l2)), (3, (0, l3)), (4, (0, l4)), (5, (0, l5)), (6, (0, l6)), (7, (0, l7))] []
  unfold X_over at hf
  refine z_aload_n X dX11_over_0 0 rfl ?_
  obtain ⟨g1, hf⟩ := gif hf
  refine y_get X fl_RX11_100 dX11_over_1 g1 ?_
  refine z_iload_n X dX11_over_4 1 rfl ?_
  refine z_iload_n X dX11_over_5 2 rfl ?_
  obtain ⟨g2, hf⟩ := gif hf
  obtain ⟨r6, hr6, hf⟩ := obE hf
  refine y_V1 X cv_RX11_186 dX11_over_6 g2 (c_Gr_hasNode d (Nat.le_trans (by decide) hd) (h l0 15) l1 l2 h r6 hr6) (as := [(0, l1), (0, l2)]) rfl rfl (Nat.le_of_ble_eq_true rfl) z00 ?_
  refine z_if_eq X dX11_over_9 rfl (fun hc9 => ?_) (fun hc9 => ?_)
  · have hf := ift hc9 hf
    refine z_ldc2 X kj_RX11_212 kl_m2 dX11_over_21 ?_
    cases hf
    exact z_lret X hK dX11_over_24
  · have hf := iff' hc9 hf
    refine z_iload_n X dX11_over_12 3 rfl ?_
    refine z_if_lt X dX11_over_13 rfl (fun hc13 => ?_) (fun hc13 => ?_)
    · have hf := ift hc13 hf
      refine z_ldc2 X kj_RX11_212 kl_m2 dX11_over_21 ?_
      cases hf
      exact z_lret X hK dX11_over_24
    · have hf := iff' hc13 hf
      refine z_iload_n X dX11_over_16 3 rfl ?_
      refine z_iconst X dX11_over_17 kc_1 ?_
      refine z_icmp_le X dX11_over_18 rfl (fun hc18 => ?_) (fun hc18 => ?_)
      · have hf := ift hc18 hf
        refine z_aload_n X dX11_over_25 0 rfl ?_
        refine y_get X fl_RX11_100 dX11_over_26 g1 ?_
        refine y_get X fl_RX11_176 dX11_over_29 g2 ?_
        refine z_iload_n X dX11_over_32 1 rfl ?_
        obtain ⟨g3, hf⟩ := gif hf
        refine y_iald X dX11_over_33 g3 ?_
        refine z_iload_n X dX11_over_34 2 rfl ?_
        refine z_iadd X dX11_over_35 ?_
        refine z_istore X dX11_over_36 (by decide) (ls' := [(8, (0, w32 ((h (h (h l0 15) 6) l1) + l2))), (0, (2, l0)), (1, (0, l1)), (2, (0, l2)), (3, (0, l3)), (4, (0, l4)), (5, (0, l5)), (6, (0, l6)), (7, (0, l7))]) rfl ?_
        refine z_aload_n X dX11_over_38 1 rfl ?_
        refine y_get X fl_RX11_100 dX11_over_39 g1 ?_
        refine y_get X fl_RX11_208 dX11_over_42 g2 ?_
        refine z_iload X dX11_over_45 0 rfl ?_
        obtain ⟨g4, hf⟩ := gif hf
        refine y_zald X dX11_over_47 g4 ?_
        refine z_istore X dX11_over_48 (by decide) (ls' := [(9, (0, h (h (h l0 15) 15) (w32 ((h (h (h l0 15) 6) l1) + l2)))), (8, (0, w32 ((h (h (h l0 15) 6) l1) + l2))), (0, (2, l0)), (1, (0, l1)), (2, (0, l2)), (3, (0, l3)), (4, (0, l4)), (5, (0, l5)), (6, (0, l6)), (7, (0, l7))]) rfl ?_
        refine z_iload X dX11_over_50 0 rfl ?_
        refine z_if_eq X dX11_over_52 rfl (fun hc52 => ?_) (fun hc52 => ?_)
        · have hf := ift hc52 hf
          refine z_aload_n X dX11_over_73 2 rfl ?_
          refine z_iload X dX11_over_74 6 rfl ?_
          refine z_iload X dX11_over_76 7 rfl ?_
          obtain ⟨r78, hr78, hf⟩ := obE hf
          refine y_V1 X cv_RX11_218 dX11_over_78 g1 (c_X_isSpan d (Nat.zero_le _) l0 l4 l5 h r78 hr78) (as := [(0, l4), (0, l5)]) rfl rfl (Nat.le_of_ble_eq_true rfl) z00 ?_
          refine z_if_eq X dX11_over_81 rfl (fun hc81 => ?_) (fun hc81 => ?_)
          · have hf := ift hc81 hf
            refine z_ldc2 X kj_RX11_212 kl_m2 dX11_over_96 ?_
            cases hf
            exact z_lret X hK dX11_over_99
          · have hf := iff' hc81 hf
            refine z_iload X dX11_over_84 8 rfl ?_
            refine z_iconst X dX11_over_86 kc_m1 ?_
            refine z_icmp_ne X dX11_over_87 rfl (fun hc87 => ?_) (fun hc87 => ?_)
            · have hf := iff' hc87 hf
              refine z_ldc2 X kj_RX11_212 kl_m2 dX11_over_96 ?_
              cases hf
              exact z_lret X hK dX11_over_99
            · have hf := ift hc87 hf
              refine z_iload X dX11_over_90 9 rfl ?_
              refine z_iconst X dX11_over_92 kc_m1 ?_
              refine z_icmp_eq X dX11_over_93 rfl (fun hc93 => ?_) (fun hc93 => ?_)
              · have hf := ift hc93 hf
                exact z_weak [2, 5, 6, 7, 8, 9, 1, 0] rfl (z_X_over_j100 X hd l0 l3 l4 l5 l6 l7 (w32 ((h (h (h l0 15) 6) l1) + l2)) (h (h (h l0 15) 15) (w32 ((h (h (h l0 15) 6) l1) + l2))) h _ hf hK)
              · have hf := iff' hc93 hf
                refine z_ldc2 X kj_RX11_212 kl_m2 dX11_over_96 ?_
                cases hf
                exact z_lret X hK dX11_over_99
        · have hf := iff' hc52 hf
          refine z_aload_n X dX11_over_55 2 rfl ?_
          refine z_iload X dX11_over_56 6 rfl ?_
          refine z_iload X dX11_over_58 7 rfl ?_
          refine z_iload X dX11_over_60 8 rfl ?_
          refine z_iload X dX11_over_62 9 rfl ?_
          obtain ⟨r64, hr64, hf⟩ := obE hf
          refine y_V1 X cv_RX11_214 dX11_over_64 g1 (c_X_isGap d (Nat.le_trans (by decide) hd) l0 l4 l5 l6 l7 h r64 hr64) (as := [(0, l4), (0, l5), (0, l6), (0, l7)]) rfl rfl (Nat.le_of_ble_eq_true rfl) z00 ?_
          refine z_if_ne X dX11_over_67 rfl (fun hc67 => ?_) (fun hc67 => ?_)
          · have hf := iff' hc67 hf
            exact z_weak [2, 5, 6, 7, 8, 9, 1, 0] rfl (z_X_over_j100 X hd l0 l3 l4 l5 l6 l7 (w32 ((h (h (h l0 15) 6) l1) + l2)) (h (h (h l0 15) 15) (w32 ((h (h (h l0 15) 6) l1) + l2))) h _ hf hK)
          · have hf := ift hc67 hf
            refine z_goto X dX11_over_70 rfl ?_
            refine z_ldc2 X kj_RX11_212 kl_m2 dX11_over_96 ?_
            cases hf
            exact z_lret X hK dX11_over_99
      · have hf := iff' hc18 hf
        refine z_ldc2 X kj_RX11_212 kl_m2 dX11_over_21 ?_
        cases hf
        exact z_lret X hK dX11_over_24
set_option maxHeartbeats 4000000 in
set_option maxRecDepth 100000 in
theorem c_X_items {l : Launch} {g : GP} (d : Nat) (hd : 6 ≤ d) (l0 l1 : Int) (h : Hp) (y : Int × Hp) (hf : X_items l0 l1 h = some y) : zM l yX11_items cX11_items 2 (some .int) d 0 0 g 157 h [(2, l0), (0, l1)] 157 y.2 (some (0, y.1)) := by
  obtain ⟨d, rfl⟩ : ∃ k, d = k + 1 := ⟨d - 1, by omega⟩
  replace hd : 5 ≤ d := Nat.le_of_succ_le_succ hd
  refine z_start (by decide) (Nat.le_of_ble_eq_true rfl) (fun x X hK _ _ _ hl => ?_)
  show ZV g x 2 h 0 [(0, (2, l0)), (1, (0, l1))] []
  unfold X_items at hf
  refine z_iload_n X dX11_items_0 1 rfl ?_
  refine z_if_lt X dX11_items_1 rfl (fun hc1 => ?_) (fun hc1 => ?_)
  · have hf := ift hc1 hf
    refine z_bipush X dX11_items_9 kb_m2 kc_m2 ?_
    cases hf
    exact z_iret X hK dX11_items_11
  · have hf := iff' hc1 hf
    refine z_iload_n X dX11_items_4 1 rfl ?_
    refine z_iconst X dX11_items_5 kc_1 ?_
    refine z_icmp_le X dX11_items_6 rfl (fun hc6 => ?_) (fun hc6 => ?_)
    · have hf := ift hc6 hf
      refine z_aload_n X dX11_items_12 0 rfl ?_
      obtain ⟨g1, hf⟩ := gif hf
      obtain ⟨r13, hr13, hf⟩ := obE hf
      refine y_V0 X cv_RX11_221 dX11_items_13 g1 (c_X_knowCounts d (Nat.le_trans (by decide) hd) l0 h r13 hr13) (as := []) rfl rfl (Nat.le_of_ble_eq_true rfl) z00 ?_
      refine z_aload_n X dX11_items_16 0 rfl ?_
      refine y_get X fl_RX11_64 dX11_items_17 g1 ?_
      refine z_iload_n X dX11_items_20 1 rfl ?_
      obtain ⟨g2, hf⟩ := gif hf
      obtain ⟨r21, hr21, hf⟩ := obE hf
      refine y_V1 X cv_RX11_232 dX11_items_21 g2 (c_Ch_itemsOf d (Nat.le_trans (by decide) hd) (r13 l0 8) l1 r13 r21 hr21) (as := [(0, l1)]) rfl rfl (Nat.le_of_ble_eq_true rfl) z00 ?_
      cases hf
      exact z_iret X hK dX11_items_24
    · have hf := iff' hc6 hf
      refine z_bipush X dX11_items_9 kb_m2 kc_m2 ?_
      cases hf
      exact z_iret X hK dX11_items_11
set_option maxHeartbeats 4000000 in
set_option maxRecDepth 100000 in
theorem c_X_spans {l : Launch} {g : GP} (d : Nat) (hd : 6 ≤ d) (l0 l1 l2 : Int) (h : Hp) (y : Int × Hp) (hf : X_spans l0 l1 l2 h = some y) : zM l yX11_spans cX11_spans 3 (some .int) d 0 0 g 157 h [(2, l0), (0, l1), (0, l2)] 157 y.2 (some (0, y.1)) := by
  obtain ⟨d, rfl⟩ : ∃ k, d = k + 1 := ⟨d - 1, by omega⟩
  replace hd : 5 ≤ d := Nat.le_of_succ_le_succ hd
  refine z_start (by decide) (Nat.le_of_ble_eq_true rfl) (fun x X hK _ _ _ hl => ?_)
  show ZV g x 3 h 0 [(0, (2, l0)), (1, (0, l1)), (2, (0, l2))] []
  unfold X_spans at hf
  refine z_aload_n X dX11_spans_0 0 rfl ?_
  refine z_iload_n X dX11_spans_1 1 rfl ?_
  refine z_iload_n X dX11_spans_2 2 rfl ?_
  obtain ⟨g1, hf⟩ := gif hf
  obtain ⟨r3, hr3, hf⟩ := obE hf
  refine y_V1 X cv_RX11_218 dX11_spans_3 g1 (c_X_isSpan d (Nat.zero_le _) l0 l1 l2 h r3 hr3) (as := [(0, l1), (0, l2)]) rfl rfl (Nat.le_of_ble_eq_true rfl) z00 ?_
  refine z_if_ne X dX11_spans_6 rfl (fun hc6 => ?_) (fun hc6 => ?_)
  · have hf := iff' hc6 hf
    refine z_aload_n X dX11_spans_12 0 rfl ?_
    obtain ⟨r13, hr13, hf⟩ := obE hf
    refine y_V0 X cv_RX11_221 dX11_spans_13 g1 (c_X_knowCounts d (Nat.le_trans (by decide) hd) l0 h r13 hr13) (as := []) rfl rfl (Nat.le_of_ble_eq_true rfl) z00 ?_
    refine z_aload_n X dX11_spans_16 0 rfl ?_
    refine y_get X fl_RX11_64 dX11_spans_17 g1 ?_
    refine z_aload_n X dX11_spans_20 0 rfl ?_
    refine y_get X fl_RX11_100 dX11_spans_21 g1 ?_
    obtain ⟨g2, hf⟩ := gif hf
    refine y_get X fl_RX11_152 dX11_spans_24 g2 ?_
    refine z_iload_n X dX11_spans_27 1 rfl ?_
    refine z_iload_n X dX11_spans_28 2 rfl ?_
    refine z_iload_n X dX11_spans_29 2 rfl ?_
    refine z_iload_n X dX11_spans_30 2 rfl ?_
    obtain ⟨g3, hf⟩ := gif hf
    obtain ⟨r31, hr31, hf⟩ := obE hf
    refine y_V1 X cv_RX11_235 dX11_spans_31 g3 (c_Ch_rootsOver d (Nat.le_trans (by decide) hd) (r13 l0 8) (r13 (r13 l0 15) 2) l1 l2 l2 l2 r13 r31 hr31) (as := [(0, r13 (r13 l0 15) 2), (0, l1), (0, l2), (0, l2), (0, l2)]) rfl rfl (Nat.le_of_ble_eq_true rfl) z00 ?_
    cases hf
    exact z_iret X hK dX11_spans_34
  · have hf := ift hc6 hf
    refine z_bipush X dX11_spans_9 kb_m2 kc_m2 ?_
    cases hf
    exact z_iret X hK dX11_spans_11
