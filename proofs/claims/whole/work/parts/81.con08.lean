set_option maxHeartbeats 4000000 in
set_option maxRecDepth 100000 in
theorem c_Wy_unfold {l : Launch} {g : GP} (d : Nat) (hd : 4 ≤ d) (l0 l1 : Int) (h : Hp) (y : Hp) (hf : Wy_unfold l0 l1 h = some y) : zM l yX9_unfold cX9_unfold 5 none d 0 0 g 157 h [(2, l0), (2, l1)] 157 y none := by
  obtain ⟨d, rfl⟩ : ∃ k, d = k + 1 := ⟨d - 1, by omega⟩
  replace hd : 3 ≤ d := Nat.le_of_succ_le_succ hd
  refine z_start (by decide) (Nat.le_of_ble_eq_true rfl) (fun x X hK _ _ _ hl => ?_)
  show ZV g x 5 h 0 [(0, (2, l0)), (1, (2, l1))] []
  unfold Wy_unfold at hf
  refine z_aload_n X dX9_unfold_0 0 rfl ?_
  obtain ⟨g1, hf⟩ := gif hf
  refine y_get X fl_RX9_32 dX9_unfold_1 g1 ?_
  refine z_iconst X dX9_unfold_4 kc_0 ?_
  obtain ⟨g2, hf⟩ := gif hf
  refine y_put X fl_RX9_64 dX9_unfold_5 g2 rfl (by decide) ?_
  let h_1 : Hp := hput h (h l0 9) 1 0
  refine z_aload_n X dX9_unfold_8 0 rfl ?_
  refine y_get X fl_RX9_36 dX9_unfold_9 g1 ?_
  refine z_iconst X dX9_unfold_12 kc_0 ?_
  obtain ⟨g3, hf⟩ := gif hf
  refine y_put X fl_RX9_64 dX9_unfold_13 g3 rfl (by decide) ?_
  let h_2 : Hp := hput h_1 (h_1 l0 10) 1 0
  refine z_aload_n X dX9_unfold_16 0 rfl ?_
  refine z_iconst X dX9_unfold_17 kc_0 ?_
  refine y_put X fl_RX9_67 dX9_unfold_18 g1 rfl (by decide) ?_
  let h_3 : Hp := hput h_2 l0 2 0
  refine z_aload_n X dX9_unfold_21 0 rfl ?_
  refine z_iconst X dX9_unfold_22 kc_0 ?_
  refine y_put X fl_RX9_70 dX9_unfold_23 g1 rfl (by decide) ?_
  let h_4 : Hp := hput h_3 l0 3 0
  refine z_aload_n X dX9_unfold_26 0 rfl ?_
  refine z_iconst X dX9_unfold_27 kc_0 ?_
  refine y_put X fl_RX9_73 dX9_unfold_28 g1 rfl (by decide) ?_
  let h_5 : Hp := hput h_4 l0 15 0
  refine z_aload_n X dX9_unfold_31 0 rfl ?_
  refine z_iconst X dX9_unfold_32 kc_0 ?_
  refine y_put X fl_RX9_76 dX9_unfold_33 g1 rfl (by decide) ?_
  let h_6 : Hp := hput h_5 l0 14 0
  refine z_aload_n X dX9_unfold_36 0 rfl ?_
  refine z_iconst X dX9_unfold_37 kc_0 ?_
  refine z_iconst X dX9_unfold_38 kc_0 ?_
  refine z_iconst X dX9_unfold_39 kc_1 ?_
  obtain ⟨r40, hr40, hf⟩ := obE hf
  refine y_V0 X cv_RX9_79 dX9_unfold_40 g1 (c_Wy_push d (Nat.le_trans (by decide) hd) l0 0 0 1 h_6 r40 hr40) (as := [(0, 0), (0, 0), (0, 1)]) rfl rfl (Nat.le_of_ble_eq_true rfl) z00 ?_
  refine z_iconst X dX9_unfold_43 kc_0 ?_
  refine z_istore_n X dX9_unfold_44 (by decide) (ls' := [(2, (0, 0)), (0, (2, l0)), (1, (2, l1))]) rfl ?_
  obtain ⟨q45, hq45, hf⟩ := obE hf
  have hx45_0 : ∀ e135 : Hp, (e135 : Hp) = q45 → ZV g x 5 e135 135 [] [] := by
    intro e135 hq
    subst hq
    cases hf
    exact z_vret X hK dX9_unfold_135
  exact z_weak [1, 2, 0] rfl (z_loop (Z := (fun q : Int × Hp => ZV g x 5 q.2 45 [(0, (2, l0)), (1, (2, l1)), (2, (0, q.1))] [])) (E := fun q => q = q45) (fun q y hb hk => z_Wy_unfold_L45 X hd l0 l1 (fun q => q = q45) hx45_0 q.1 q.2 y hb hk) LN (0, r40) q45 hq45 rfl)
set_option maxHeartbeats 4000000 in
set_option maxRecDepth 100000 in
theorem z_Wy_hasArc_j33 {g : GP} {x : CX} {d : Nat} (X : zX g x RX9 cX9_hasArc 2 d) (h : Hp) (y : Int) (hf : Wy_hasArc_j33 h = some y) (hK : zE g x (some .boolean) 0 0 157 h (some (0, y))) : ZV g x 2 h 33 [] [] := by
  unfold Wy_hasArc_j33 at hf
  refine z_iconst X dX9_hasArc_33 kc_0 ?_
  cases hf
  exact z_zret X hK (Or.inl rfl) dX9_hasArc_34
set_option maxHeartbeats 4000000 in
set_option maxRecDepth 100000 in
theorem c_Wy_hasArc {l : Launch} {g : GP} (d : Nat) (hd : 0 ≤ d) (l0 l1 : Int) (h : Hp) (y : Int) (hf : Wy_hasArc l0 l1 h = some y) : zM l yX9_hasArc cX9_hasArc 2 (some .boolean) d 0 0 g 157 h [(2, l0), (0, l1)] 157 h (some (0, y)) := by
  refine z_start (by decide) (Nat.le_of_ble_eq_true rfl) (fun x X hK _ _ _ hl => ?_)
  show ZV g x 2 h 0 [(0, (2, l0)), (1, (0, l1))] []
  unfold Wy_hasArc at hf
  refine z_iload_n X dX9_hasArc_0 1 rfl ?_
  refine z_if_le X dX9_hasArc_1 rfl (fun hc1 => ?_) (fun hc1 => ?_)
  · have hf := ift hc1 hf
    exact z_weak [] rfl (z_Wy_hasArc_j33 X  h _ hf hK)
  · have hf := iff' hc1 hf
    refine z_aload_n X dX9_hasArc_4 0 rfl ?_
    obtain ⟨g1, hf⟩ := gif hf
    refine y_get X fl_RX9_21 dX9_hasArc_5 g1 ?_
    refine z_iload_n X dX9_hasArc_8 1 rfl ?_
    obtain ⟨g2, hf⟩ := gif hf
    refine y_iald X dX9_hasArc_9 g2 ?_
    refine z_iconst X dX9_hasArc_10 kc_m1 ?_
    refine z_icmp_eq X dX9_hasArc_11 rfl (fun hc11 => ?_) (fun hc11 => ?_)
    · have hf := ift hc11 hf
      exact z_weak [] rfl (z_Wy_hasArc_j33 X  h _ hf hK)
    · have hf := iff' hc11 hf
      refine z_aload_n X dX9_hasArc_14 0 rfl ?_
      refine y_get X fl_RX9_21 dX9_hasArc_15 g1 ?_
      refine z_aload_n X dX9_hasArc_18 0 rfl ?_
      refine y_get X fl_RX9_15 dX9_hasArc_19 g1 ?_
      refine z_iload_n X dX9_hasArc_22 1 rfl ?_
      obtain ⟨g3, hf⟩ := gif hf
      refine y_iald X dX9_hasArc_23 g3 ?_
      obtain ⟨g4, hf⟩ := gif hf
      refine y_iald X dX9_hasArc_24 g4 ?_
      refine z_iconst X dX9_hasArc_25 kc_m1 ?_
      refine z_icmp_eq X dX9_hasArc_26 rfl (fun hc26 => ?_) (fun hc26 => ?_)
      · have hf := ift hc26 hf
        exact z_weak [] rfl (z_Wy_hasArc_j33 X  h _ hf hK)
      · have hf := iff' hc26 hf
        refine z_iconst X dX9_hasArc_29 kc_1 ?_
        refine z_goto X dX9_hasArc_30 rfl ?_
        cases hf
        exact z_zret X hK (Or.inr rfl) dX9_hasArc_34
set_option maxHeartbeats 4000000 in
set_option maxRecDepth 100000 in
theorem z_Wy_arcCount_j26 {g : GP} {x : CX} {d : Nat} (X : zX g x RX9 cX9_arcCount 3 (d + 1)) (hd : 0 ≤ d) (l0 l2 s0 s1 : Int) (h : Hp) (y : (Int × Int) ⊕ (Int)) (hf : Wy_arcCount_j26 l0 l2 s0 s1 h = some y) (E : Int → Prop) (hx0 : ∀ e : Int, E (e) → ZV g x 3 h 34 [(1, (0, e))] []) (hk : z_sum (fun q : Int × Int => ZV g x 3 h 4 [(0, (2, l0)), (1, (0, q.1)), (2, (0, q.2))] []) E y) : ZV g x 3 h 26 [(0, (2, l0)), (2, (0, l2))] [(0, s0), (0, s1)] := by
  unfold Wy_arcCount_j26 at hf
  refine z_iadd X dX9_arcCount_26 ?_
  refine z_istore_n X dX9_arcCount_27 (by decide) (ls' := [(1, (0, w32 (s1 + s0))), (0, (2, l0)), (2, (0, l2))]) rfl ?_
  refine z_iinc X dX9_arcCount_28 2 rfl (by decide) (ls' := [(2, (0, w32 (l2 + 1))), (1, (0, w32 (s1 + s0))), (0, (2, l0))]) rfl ?_
  refine z_goto X dX9_arcCount_31 rfl ?_
  cases hf
  exact z_weak [2, 1, 0] rfl hk
set_option maxHeartbeats 4000000 in
set_option maxRecDepth 100000 in
theorem z_Wy_arcCount_L4 {g : GP} {x : CX} {d : Nat} (X : zX g x RX9 cX9_arcCount 3 (d + 1)) (hd : 0 ≤ d) (l0 : Int) (h : Hp) (E : Int → Prop) (hx0 : ∀ e : Int, E (e) → ZV g x 3 h 34 [(1, (0, e))] []) (l1 l2 : Int) (y : (Int × Int) ⊕ (Int)) (hf : Wy_arcCount_L4 l0 h l1 l2 = some y) (hk : z_sum (fun q : Int × Int => ZV g x 3 h 4 [(0, (2, l0)), (1, (0, q.1)), (2, (0, q.2))] []) E y) : ZV g x 3 h 4 [(0, (2, l0)), (1, (0, l1)), (2, (0, l2))] [] := by
  unfold Wy_arcCount_L4 at hf
  refine z_iload_n X dX9_arcCount_4 2 rfl ?_
  refine z_aload_n X dX9_arcCount_5 0 rfl ?_
  obtain ⟨g1, hf⟩ := gif hf
  refine y_get X fl_RX9_48 dX9_arcCount_6 g1 ?_
  refine z_icmp_ge X dX9_arcCount_9 rfl (fun hc9 => ?_) (fun hc9 => ?_)
  · have hf := ift hc9 hf
    cases hf
    exact z_weak [1] rfl (hx0 _ hk)
  · have hf := iff' hc9 hf
    refine z_iload_n X dX9_arcCount_12 1 rfl ?_
    refine z_aload_n X dX9_arcCount_13 0 rfl ?_
    refine z_iload_n X dX9_arcCount_14 2 rfl ?_
    obtain ⟨r15, hr15, hf⟩ := obE hf
    refine y_V1 X cv_RX9_126 dX9_arcCount_15 g1 (c_Wy_hasArc d (Nat.zero_le _) l0 l2 h r15 hr15) (as := [(0, l2)]) rfl rfl (Nat.le_of_ble_eq_true rfl) z00 ?_
    refine z_if_eq X dX9_arcCount_18 rfl (fun hc18 => ?_) (fun hc18 => ?_)
    · rw [if_pos hc18] at hf
      refine z_iconst X dX9_arcCount_25 kc_0 ?_
      exact z_weak [0, 2] rfl (z_Wy_arcCount_j26 X hd l0 l2 0 l1 h _ hf E hx0 hk)
    · rw [if_neg hc18] at hf
      refine z_iconst X dX9_arcCount_21 kc_1 ?_
      refine z_goto X dX9_arcCount_22 rfl ?_
      exact z_weak [0, 2] rfl (z_Wy_arcCount_j26 X hd l0 l2 1 l1 h _ hf E hx0 hk)
set_option maxHeartbeats 4000000 in
set_option maxRecDepth 100000 in
theorem c_Wy_arcCount {l : Launch} {g : GP} (d : Nat) (hd : 1 ≤ d) (l0 : Int) (h : Hp) (y : Int) (hf : Wy_arcCount l0 h = some y) : zM l yX9_arcCount cX9_arcCount 3 (some .int) d 0 0 g 157 h [(2, l0)] 157 h (some (0, y)) := by
  obtain ⟨d, rfl⟩ : ∃ k, d = k + 1 := ⟨d - 1, by omega⟩
  replace hd : 0 ≤ d := Nat.le_of_succ_le_succ hd
  refine z_start (by decide) (Nat.le_of_ble_eq_true rfl) (fun x X hK _ _ _ hl => ?_)
  show ZV g x 3 h 0 [(0, (2, l0))] []
  unfold Wy_arcCount at hf
  refine z_iconst X dX9_arcCount_0 kc_0 ?_
  refine z_istore_n X dX9_arcCount_1 (by decide) (ls' := [(1, (0, 0)), (0, (2, l0))]) rfl ?_
  refine z_iconst X dX9_arcCount_2 kc_1 ?_
  refine z_istore_n X dX9_arcCount_3 (by decide) (ls' := [(2, (0, 1)), (1, (0, 0)), (0, (2, l0))]) rfl ?_
  obtain ⟨q4, hq4, hf⟩ := obE hf
  have hx4_0 : ∀ e34 : Int, (e34 : Int) = q4 → ZV g x 3 h 34 [(1, (0, e34))] [] := by
    intro e34 hq
    subst hq
    refine z_iload_n X dX9_arcCount_34 0 rfl ?_
    cases hf
    exact z_iret X hK dX9_arcCount_35
  exact z_weak [2, 1, 0] rfl (z_loop (Z := (fun q : Int × Int => ZV g x 3 h 4 [(0, (2, l0)), (1, (0, q.1)), (2, (0, q.2))] [])) (E := fun q => q = q4) (fun q y hb hk => z_Wy_arcCount_L4 X hd l0 h (fun q => q = q4) hx4_0 q.1 q.2 y hb hk) LN (0, 1) q4 hq4 rfl)
set_option maxHeartbeats 4000000 in
set_option maxRecDepth 100000 in
theorem z_Wy_longestArc_j46 {g : GP} {x : CX} {d : Nat} (X : zX g x RX9 cX9_longestArc 3 (d + 1)) (hd : 0 ≤ d) (l0 l1 l2 : Int) (h : Hp) (y : (Int × Int) ⊕ (Int)) (hf : Wy_longestArc_j46 l0 l1 l2 h = some y) (E : Int → Prop) (hx0 : ∀ e : Int, E (e) → ZV g x 3 h 52 [(1, (0, e))] []) (hk : z_sum (fun q : Int × Int => ZV g x 3 h 4 [(0, (2, l0)), (1, (0, q.1)), (2, (0, q.2))] []) E y) : ZV g x 3 h 46 [(0, (2, l0)), (1, (0, l1)), (2, (0, l2))] [] := by
  unfold Wy_longestArc_j46 at hf
  refine z_iinc X dX9_longestArc_46 2 rfl (by decide) (ls' := [(2, (0, w32 (l2 + 1))), (0, (2, l0)), (1, (0, l1))]) rfl ?_
  refine z_goto X dX9_longestArc_49 rfl ?_
  cases hf
  exact z_weak [1, 2, 0] rfl hk
set_option maxHeartbeats 4000000 in
set_option maxRecDepth 100000 in
theorem z_Wy_longestArc_L4 {g : GP} {x : CX} {d : Nat} (X : zX g x RX9 cX9_longestArc 3 (d + 1)) (hd : 0 ≤ d) (l0 : Int) (h : Hp) (E : Int → Prop) (hx0 : ∀ e : Int, E (e) → ZV g x 3 h 52 [(1, (0, e))] []) (l1 l2 : Int) (y : (Int × Int) ⊕ (Int)) (hf : Wy_longestArc_L4 l0 h l1 l2 = some y) (hk : z_sum (fun q : Int × Int => ZV g x 3 h 4 [(0, (2, l0)), (1, (0, q.1)), (2, (0, q.2))] []) E y) : ZV g x 3 h 4 [(0, (2, l0)), (1, (0, l1)), (2, (0, l2))] [] := by
  unfold Wy_longestArc_L4 at hf
  refine z_iload_n X dX9_longestArc_4 2 rfl ?_
  refine z_aload_n X dX9_longestArc_5 0 rfl ?_
  obtain ⟨g1, hf⟩ := gif hf
  refine y_get X fl_RX9_48 dX9_longestArc_6 g1 ?_
  refine z_icmp_ge X dX9_longestArc_9 rfl (fun hc9 => ?_) (fun hc9 => ?_)
  · have hf := ift hc9 hf
    cases hf
    exact z_weak [1] rfl (hx0 _ hk)
  · have hf := iff' hc9 hf
    refine z_aload_n X dX9_longestArc_12 0 rfl ?_
    refine z_iload_n X dX9_longestArc_13 2 rfl ?_
    obtain ⟨r14, hr14, hf⟩ := obE hf
    refine y_V1 X cv_RX9_126 dX9_longestArc_14 g1 (c_Wy_hasArc d (Nat.zero_le _) l0 l2 h r14 hr14) (as := [(0, l2)]) rfl rfl (Nat.le_of_ble_eq_true rfl) z00 ?_
    refine z_if_eq X dX9_longestArc_17 rfl (fun hc17 => ?_) (fun hc17 => ?_)
    · have hf := ift hc17 hf
      exact (z_Wy_longestArc_j46 X hd l0 l1 l2 h _ hf E hx0 hk)
    · have hf := iff' hc17 hf
      refine z_iload_n X dX9_longestArc_20 1 rfl ?_
      refine z_aload_n X dX9_longestArc_21 0 rfl ?_
      refine y_get X fl_RX9_21 dX9_longestArc_22 g1 ?_
      refine z_iload_n X dX9_longestArc_25 2 rfl ?_
      obtain ⟨g2, hf⟩ := gif hf
      refine y_iald X dX9_longestArc_26 g2 ?_
      refine z_aload_n X dX9_longestArc_27 0 rfl ?_
      refine y_get X fl_RX9_21 dX9_longestArc_28 g1 ?_
      refine z_aload_n X dX9_longestArc_31 0 rfl ?_
      refine y_get X fl_RX9_15 dX9_longestArc_32 g1 ?_
      refine z_iload_n X dX9_longestArc_35 2 rfl ?_
      obtain ⟨g3, hf⟩ := gif hf
      refine y_iald X dX9_longestArc_36 g3 ?_
      obtain ⟨g4, hf⟩ := gif hf
      refine y_iald X dX9_longestArc_37 g4 ?_
      refine z_isub X dX9_longestArc_38 ?_
      refine y_abs X cm_RX9_130 dX9_longestArc_39 (Nat.le_of_ble_eq_true rfl) ?_
      refine y_max X cm_RX9_111 dX9_longestArc_42 (Nat.le_of_ble_eq_true rfl) ?_
      refine z_istore_n X dX9_longestArc_45 (by decide) (ls' := [(1, (0, max l1 (i_abs (w32 ((h (h l0 7) l2) - (h (h l0 7) (h (h l0 5) l2))))))), (0, (2, l0)), (2, (0, l2))]) rfl ?_
      exact z_weak [1, 0, 2] rfl (z_Wy_longestArc_j46 X hd l0 (max l1 (i_abs (w32 ((h (h l0 7) l2) - (h (h l0 7) (h (h l0 5) l2)))))) l2 h _ hf E hx0 hk)
set_option maxHeartbeats 4000000 in
set_option maxRecDepth 100000 in
theorem c_Wy_longestArc {l : Launch} {g : GP} (d : Nat) (hd : 1 ≤ d) (l0 : Int) (h : Hp) (y : Int) (hf : Wy_longestArc l0 h = some y) : zM l yX9_longestArc cX9_longestArc 3 (some .int) d 0 0 g 157 h [(2, l0)] 157 h (some (0, y)) := by
  obtain ⟨d, rfl⟩ : ∃ k, d = k + 1 := ⟨d - 1, by omega⟩
  replace hd : 0 ≤ d := Nat.le_of_succ_le_succ hd
  refine z_start (by decide) (Nat.le_of_ble_eq_true rfl) (fun x X hK _ _ _ hl => ?_)
  show ZV g x 3 h 0 [(0, (2, l0))] []
  unfold Wy_longestArc at hf
  refine z_iconst X dX9_longestArc_0 kc_0 ?_
  refine z_istore_n X dX9_longestArc_1 (by decide) (ls' := [(1, (0, 0)), (0, (2, l0))]) rfl ?_
  refine z_iconst X dX9_longestArc_2 kc_1 ?_
  refine z_istore_n X dX9_longestArc_3 (by decide) (ls' := [(2, (0, 1)), (1, (0, 0)), (0, (2, l0))]) rfl ?_
  obtain ⟨q4, hq4, hf⟩ := obE hf
  have hx4_0 : ∀ e52 : Int, (e52 : Int) = q4 → ZV g x 3 h 52 [(1, (0, e52))] [] := by
    intro e52 hq
    subst hq
    refine z_iload_n X dX9_longestArc_52 0 rfl ?_
    cases hf
    exact z_iret X hK dX9_longestArc_53
  exact z_weak [2, 1, 0] rfl (z_loop (Z := (fun q : Int × Int => ZV g x 3 h 4 [(0, (2, l0)), (1, (0, q.1)), (2, (0, q.2))] [])) (E := fun q => q = q4) (fun q y hb hk => z_Wy_longestArc_L4 X hd l0 h (fun q => q = q4) hx4_0 q.1 q.2 y hb hk) LN (0, 1) q4 hq4 rfl)
set_option maxHeartbeats 4000000 in
set_option maxRecDepth 100000 in
theorem z_Wy_cross_j130 {g : GP} {x : CX} {d : Nat} (X : zX g x RX9 cX9_cross 7 (d + 1)) (hd : 0 ≤ d) (h : Hp) (y : Int) (hf : Wy_cross_j130 h = some y) (hK : zE g x (some .boolean) 0 0 157 h (some (0, y))) : ZV g x 7 h 130 [] [] := by
  unfold Wy_cross_j130 at hf
  refine z_iconst X dX9_cross_130 kc_0 ?_
  cases hf
  exact z_zret X hK (Or.inl rfl) dX9_cross_131
set_option maxHeartbeats 4000000 in
set_option maxRecDepth 100000 in
theorem z_Wy_cross_j107 {g : GP} {x : CX} {d : Nat} (X : zX g x RX9 cX9_cross 7 (d + 1)) (hd : 0 ≤ d) (l3 l4 l5 l6 : Int) (h : Hp) (y : Int) (hf : Wy_cross_j107 l3 l4 l5 l6 h = some y) (hK : zE g x (some .boolean) 0 0 157 h (some (0, y))) : ZV g x 7 h 107 [(3, (0, l3)), (4, (0, l4)), (5, (0, l5)), (6, (0, l6))] [] := by
  unfold Wy_cross_j107 at hf
  refine z_iload X dX9_cross_107 2 rfl ?_
  refine z_iload_n X dX9_cross_109 0 rfl ?_
  refine z_icmp_ge X dX9_cross_110 rfl (fun hc110 => ?_) (fun hc110 => ?_)
  · have hf := ift hc110 hf
    exact z_weak [] rfl (z_Wy_cross_j130 X hd  h _ hf hK)
  · have hf := iff' hc110 hf
    refine z_iload_n X dX9_cross_113 0 rfl ?_
    refine z_iload X dX9_cross_114 3 rfl ?_
    refine z_icmp_ge X dX9_cross_116 rfl (fun hc116 => ?_) (fun hc116 => ?_)
    · have hf := ift hc116 hf
      exact z_weak [] rfl (z_Wy_cross_j130 X hd  h _ hf hK)
    · have hf := iff' hc116 hf
      refine z_iload X dX9_cross_119 3 rfl ?_
      refine z_iload X dX9_cross_121 1 rfl ?_
      refine z_icmp_ge X dX9_cross_123 rfl (fun hc123 => ?_) (fun hc123 => ?_)
      · have hf := ift hc123 hf
        exact z_weak [] rfl (z_Wy_cross_j130 X hd  h _ hf hK)
      · have hf := iff' hc123 hf
        refine z_iconst X dX9_cross_126 kc_1 ?_
        refine z_goto X dX9_cross_127 rfl ?_
        cases hf
        exact z_zret X hK (Or.inr rfl) dX9_cross_131
set_option maxHeartbeats 4000000 in
set_option maxRecDepth 100000 in
theorem c_Wy_cross {l : Launch} {g : GP} (d : Nat) (hd : 1 ≤ d) (l0 l1 l2 : Int) (h : Hp) (y : Int) (hf : Wy_cross l0 l1 l2 h = some y) : zM l yX9_cross cX9_cross 7 (some .boolean) d 0 0 g 157 h [(2, l0), (0, l1), (0, l2)] 157 h (some (0, y)) := by
  obtain ⟨d, rfl⟩ : ∃ k, d = k + 1 := ⟨d - 1, by omega⟩
  replace hd : 0 ≤ d := Nat.le_of_succ_le_succ hd
  refine z_start (by decide) (Nat.le_of_ble_eq_true rfl) (fun x X hK _ _ _ hl => ?_)
  show ZV g x 7 h 0 [(0, (2, l0)), (1, (0, l1)), (2, (0, l2))] []
  unfold Wy_cross at hf
  refine z_aload_n X dX9_cross_0 0 rfl ?_
  obtain ⟨g1, hf⟩ := gif hf
  refine y_get X fl_RX9_21 dX9_cross_1 g1 ?_
  refine z_iload_n X dX9_cross_4 1 rfl ?_
  obtain ⟨g2, hf⟩ := gif hf
  refine y_iald X dX9_cross_5 g2 ?_
  refine z_aload_n X dX9_cross_6 0 rfl ?_
  refine y_get X fl_RX9_21 dX9_cross_7 g1 ?_
  refine z_aload_n X dX9_cross_10 0 rfl ?_
  refine y_get X fl_RX9_15 dX9_cross_11 g1 ?_
  refine z_iload_n X dX9_cross_14 1 rfl ?_
  obtain ⟨g3, hf⟩ := gif hf
  refine y_iald X dX9_cross_15 g3 ?_
  obtain ⟨g4, hf⟩ := gif hf
  refine y_iald X dX9_cross_16 g4 ?_
  refine y_min X cm_RX9_138 dX9_cross_17 (Nat.le_of_ble_eq_true rfl) ?_
  refine z_istore_n X dX9_cross_20 (by decide) (ls' := [(3, (0, min (h (h l0 7) l1) (h (h l0 7) (h (h l0 5) l1)))), (0, (2, l0)), (1, (0, l1)), (2, (0, l2))]) rfl ?_
  refine z_aload_n X dX9_cross_21 1 rfl ?_
  refine y_get X fl_RX9_21 dX9_cross_22 g1 ?_
  refine z_iload_n X dX9_cross_25 2 rfl ?_
  refine y_iald X dX9_cross_26 g2 ?_
  refine z_aload_n X dX9_cross_27 1 rfl ?_
  refine y_get X fl_RX9_21 dX9_cross_28 g1 ?_
  refine z_aload_n X dX9_cross_31 1 rfl ?_
  refine y_get X fl_RX9_15 dX9_cross_32 g1 ?_
  refine z_iload_n X dX9_cross_35 2 rfl ?_
  refine y_iald X dX9_cross_36 g3 ?_
  refine y_iald X dX9_cross_37 g4 ?_
  refine y_max X cm_RX9_111 dX9_cross_38 (Nat.le_of_ble_eq_true rfl) ?_
  refine z_istore X dX9_cross_41 (by decide) (ls' := [(4, (0, max (h (h l0 7) l1) (h (h l0 7) (h (h l0 5) l1)))), (3, (0, min (h (h l0 7) l1) (h (h l0 7) (h (h l0 5) l1)))), (0, (2, l0)), (1, (0, l1)), (2, (0, l2))]) rfl ?_
  refine z_aload_n X dX9_cross_43 2 rfl ?_
  refine y_get X fl_RX9_21 dX9_cross_44 g1 ?_
  refine z_iload_n X dX9_cross_47 4 rfl ?_
  obtain ⟨g5, hf⟩ := gif hf
  refine y_iald X dX9_cross_48 g5 ?_
  refine z_aload_n X dX9_cross_49 2 rfl ?_
  refine y_get X fl_RX9_21 dX9_cross_50 g1 ?_
  refine z_aload_n X dX9_cross_53 2 rfl ?_
  refine y_get X fl_RX9_15 dX9_cross_54 g1 ?_
  refine z_iload_n X dX9_cross_57 4 rfl ?_
  obtain ⟨g6, hf⟩ := gif hf
  refine y_iald X dX9_cross_58 g6 ?_
  obtain ⟨g7, hf⟩ := gif hf
  refine y_iald X dX9_cross_59 g7 ?_
  refine y_min X cm_RX9_138 dX9_cross_60 (Nat.le_of_ble_eq_true rfl) ?_
  refine z_istore X dX9_cross_63 (by decide) (ls' := [(5, (0, min (h (h l0 7) l2) (h (h l0 7) (h (h l0 5) l2)))), (4, (0, max (h (h l0 7) l1) (h (h l0 7) (h (h l0 5) l1)))), (3, (0, min (h (h l0 7) l1) (h (h l0 7) (h (h l0 5) l1)))), (0, (2, l0)), (1, (0, l1)), (2, (0, l2))]) rfl ?_
  refine z_aload_n X dX9_cross_65 3 rfl ?_
  refine y_get X fl_RX9_21 dX9_cross_66 g1 ?_
  refine z_iload_n X dX9_cross_69 5 rfl ?_
  refine y_iald X dX9_cross_70 g5 ?_
  refine z_aload_n X dX9_cross_71 3 rfl ?_
  refine y_get X fl_RX9_21 dX9_cross_72 g1 ?_
  refine z_aload_n X dX9_cross_75 3 rfl ?_
  refine y_get X fl_RX9_15 dX9_cross_76 g1 ?_
  refine z_iload_n X dX9_cross_79 5 rfl ?_
  refine y_iald X dX9_cross_80 g6 ?_
  refine y_iald X dX9_cross_81 g7 ?_
  refine y_max X cm_RX9_111 dX9_cross_82 (Nat.le_of_ble_eq_true rfl) ?_
  refine z_istore X dX9_cross_85 (by decide) (ls' := [(6, (0, max (h (h l0 7) l2) (h (h l0 7) (h (h l0 5) l2)))), (5, (0, min (h (h l0 7) l2) (h (h l0 7) (h (h l0 5) l2)))), (4, (0, max (h (h l0 7) l1) (h (h l0 7) (h (h l0 5) l1)))), (3, (0, min (h (h l0 7) l1) (h (h l0 7) (h (h l0 5) l1)))), (0, (2, l0)), (1, (0, l1)), (2, (0, l2))]) rfl ?_
  refine z_iload_n X dX9_cross_87 3 rfl ?_
  refine z_iload X dX9_cross_88 1 rfl ?_
  refine z_icmp_ge X dX9_cross_90 rfl (fun hc90 => ?_) (fun hc90 => ?_)
  · have hf := ift hc90 hf
    exact z_weak [3, 2, 1, 0] rfl (z_Wy_cross_j107 X hd (min (h (h l0 7) l1) (h (h l0 7) (h (h l0 5) l1))) (max (h (h l0 7) l1) (h (h l0 7) (h (h l0 5) l1))) (min (h (h l0 7) l2) (h (h l0 7) (h (h l0 5) l2))) (max (h (h l0 7) l2) (h (h l0 7) (h (h l0 5) l2))) h _ hf hK)
  · have hf := iff' hc90 hf
    refine z_iload X dX9_cross_93 1 rfl ?_
    refine z_iload X dX9_cross_95 2 rfl ?_
    refine z_icmp_ge X dX9_cross_97 rfl (fun hc97 => ?_) (fun hc97 => ?_)
    · have hf := ift hc97 hf
      exact z_weak [3, 2, 1, 0] rfl (z_Wy_cross_j107 X hd (min (h (h l0 7) l1) (h (h l0 7) (h (h l0 5) l1))) (max (h (h l0 7) l1) (h (h l0 7) (h (h l0 5) l1))) (min (h (h l0 7) l2) (h (h l0 7) (h (h l0 5) l2))) (max (h (h l0 7) l2) (h (h l0 7) (h (h l0 5) l2))) h _ hf hK)
    · have hf := iff' hc97 hf
      refine z_iload X dX9_cross_100 2 rfl ?_
      refine z_iload X dX9_cross_102 0 rfl ?_
      refine z_icmp_lt X dX9_cross_104 rfl (fun hc104 => ?_) (fun hc104 => ?_)
      · have hf := ift hc104 hf
        refine z_iconst X dX9_cross_126 kc_1 ?_
        refine z_goto X dX9_cross_127 rfl ?_
        cases hf
        exact z_zret X hK (Or.inr rfl) dX9_cross_131
      · have hf := iff' hc104 hf
        exact z_weak [3, 2, 1, 0] rfl (z_Wy_cross_j107 X hd (min (h (h l0 7) l1) (h (h l0 7) (h (h l0 5) l1))) (max (h (h l0 7) l1) (h (h l0 7) (h (h l0 5) l1))) (min (h (h l0 7) l2) (h (h l0 7) (h (h l0 5) l2))) (max (h (h l0 7) l2) (h (h l0 7) (h (h l0 5) l2))) h _ hf hK)
set_option maxHeartbeats 4000000 in
set_option maxRecDepth 100000 in
theorem z_Wy_crossings_j55 {g : GP} {x : CX} {d : Nat} (X : zX g x RX9 cX9_crossings 4 (d + 1)) (hd : 1 ≤ d) (l0 l2 l3 s0 s1 : Int) (h : Hp) (y : (Int × Int) ⊕ (Int)) (hf : Wy_crossings_j55 l0 l2 l3 s0 s1 h = some y) (E : Int → Prop) (hx0 : ∀ e : Int, E (e) → ZV g x 4 h 63 [(0, (2, l0)), (1, (0, e)), (2, (0, l2))] []) (hk : z_sum (fun q : Int × Int => ZV g x 4 h 16 [(0, (2, l0)), (1, (0, q.1)), (2, (0, l2)), (3, (0, q.2))] []) E y) : ZV g x 4 h 55 [(0, (2, l0)), (2, (0, l2)), (3, (0, l3))] [(0, s0), (0, s1)] := by
  unfold Wy_crossings_j55 at hf
  refine z_iadd X dX9_crossings_55 ?_
  refine z_istore_n X dX9_crossings_56 (by decide) (ls' := [(1, (0, w32 (s1 + s0))), (0, (2, l0)), (2, (0, l2)), (3, (0, l3))]) rfl ?_
  refine z_iinc X dX9_crossings_57 3 rfl (by decide) (ls' := [(3, (0, w32 (l3 + 1))), (1, (0, w32 (s1 + s0))), (0, (2, l0)), (2, (0, l2))]) rfl ?_
  refine z_goto X dX9_crossings_60 rfl ?_
  cases hf
  exact z_weak [2, 1, 3, 0] rfl hk
set_option maxHeartbeats 4000000 in
set_option maxRecDepth 100000 in
theorem z_Wy_crossings_j54 {g : GP} {x : CX} {d : Nat} (X : zX g x RX9 cX9_crossings 4 (d + 1)) (hd : 1 ≤ d) (l0 l2 l3 s0 : Int) (h : Hp) (y : (Int × Int) ⊕ (Int)) (hf : Wy_crossings_j54 l0 l2 l3 s0 h = some y) (E : Int → Prop) (hx0 : ∀ e : Int, E (e) → ZV g x 4 h 63 [(0, (2, l0)), (1, (0, e)), (2, (0, l2))] []) (hk : z_sum (fun q : Int × Int => ZV g x 4 h 16 [(0, (2, l0)), (1, (0, q.1)), (2, (0, l2)), (3, (0, q.2))] []) E y) : ZV g x 4 h 54 [(0, (2, l0)), (2, (0, l2)), (3, (0, l3))] [(0, s0)] := by
  unfold Wy_crossings_j54 at hf
  refine z_iconst X dX9_crossings_54 kc_0 ?_
  exact (z_Wy_crossings_j55 X hd l0 l2 l3 0 s0 h _ hf E hx0 hk)
set_option maxHeartbeats 4000000 in
set_option maxRecDepth 100000 in
theorem z_Wy_crossings_L16 {g : GP} {x : CX} {d : Nat} (X : zX g x RX9 cX9_crossings 4 (d + 1)) (hd : 1 ≤ d) (l0 l2 : Int) (h : Hp) (E : Int → Prop) (hx0 : ∀ e : Int, E (e) → ZV g x 4 h 63 [(0, (2, l0)), (1, (0, e)), (2, (0, l2))] []) (l1 l3 : Int) (y : (Int × Int) ⊕ (Int)) (hf : Wy_crossings_L16 l0 l2 h l1 l3 = some y) (hk : z_sum (fun q : Int × Int => ZV g x 4 h 16 [(0, (2, l0)), (1, (0, q.1)), (2, (0, l2)), (3, (0, q.2))] []) E y) : ZV g x 4 h 16 [(0, (2, l0)), (1, (0, l1)), (2, (0, l2)), (3, (0, l3))] [] := by
  unfold Wy_crossings_L16 at hf
  refine z_iload_n X dX9_crossings_16 3 rfl ?_
  refine z_aload_n X dX9_crossings_17 0 rfl ?_
  obtain ⟨g2, hf⟩ := gif hf
  refine y_get X fl_RX9_48 dX9_crossings_18 g2 ?_
  refine z_icmp_ge X dX9_crossings_21 rfl (fun hc21 => ?_) (fun hc21 => ?_)
  · have hf := ift hc21 hf
    cases hf
    exact z_weak [0, 1, 2] rfl (hx0 _ hk)
  · have hf := iff' hc21 hf
    refine z_iload_n X dX9_crossings_24 1 rfl ?_
    refine z_aload_n X dX9_crossings_25 0 rfl ?_
    refine z_iload_n X dX9_crossings_26 2 rfl ?_
    obtain ⟨r27, hr27, hf⟩ := obE hf
    refine y_V1 X cv_RX9_126 dX9_crossings_27 g2 (c_Wy_hasArc d (Nat.zero_le _) l0 l2 h r27 hr27) (as := [(0, l2)]) rfl rfl (Nat.le_of_ble_eq_true rfl) z00 ?_
    refine z_if_eq X dX9_crossings_30 rfl (fun hc30 => ?_) (fun hc30 => ?_)
    · have hf := ift hc30 hf
      exact z_weak [0, 2, 3] rfl (z_Wy_crossings_j54 X hd l0 l2 l3 l1 h _ hf E hx0 hk)
    · have hf := iff' hc30 hf
      refine z_aload_n X dX9_crossings_33 0 rfl ?_
      refine z_iload_n X dX9_crossings_34 3 rfl ?_
      obtain ⟨r35, hr35, hf⟩ := obE hf
      refine y_V1 X cv_RX9_126 dX9_crossings_35 g2 (c_Wy_hasArc d (Nat.zero_le _) l0 l3 h r35 hr35) (as := [(0, l3)]) rfl rfl (Nat.le_of_ble_eq_true rfl) z00 ?_
      refine z_if_eq X dX9_crossings_38 rfl (fun hc38 => ?_) (fun hc38 => ?_)
      · have hf := ift hc38 hf
        exact z_weak [0, 2, 3] rfl (z_Wy_crossings_j54 X hd l0 l2 l3 l1 h _ hf E hx0 hk)
      · have hf := iff' hc38 hf
        refine z_aload_n X dX9_crossings_41 0 rfl ?_
        refine z_iload_n X dX9_crossings_42 2 rfl ?_
        refine z_iload_n X dX9_crossings_43 3 rfl ?_
        obtain ⟨r44, hr44, hf⟩ := obE hf
        refine y_V1 X cv_RX9_134 dX9_crossings_44 g2 (c_Wy_cross d (Nat.le_trans (by decide) hd) l0 l2 l3 h r44 hr44) (as := [(0, l2), (0, l3)]) rfl rfl (Nat.le_of_ble_eq_true rfl) z00 ?_
        refine z_if_eq X dX9_crossings_47 rfl (fun hc47 => ?_) (fun hc47 => ?_)
        · have hf := ift hc47 hf
          exact z_weak [0, 2, 3] rfl (z_Wy_crossings_j54 X hd l0 l2 l3 l1 h _ hf E hx0 hk)
        · have hf := iff' hc47 hf
          refine z_iconst X dX9_crossings_50 kc_1 ?_
          refine z_goto X dX9_crossings_51 rfl ?_
          exact z_weak [0, 2, 3] rfl (z_Wy_crossings_j55 X hd l0 l2 l3 1 l1 h _ hf E hx0 hk)
set_option maxHeartbeats 4000000 in
set_option maxRecDepth 100000 in
theorem z_Wy_crossings_L4 {g : GP} {x : CX} {d : Nat} (X : zX g x RX9 cX9_crossings 4 (d + 1)) (hd : 1 ≤ d) (l0 : Int) (h : Hp) (E : Int → Prop) (hx0 : ∀ e : Int, E (e) → ZV g x 4 h 69 [(1, (0, e))] []) (l1 l2 : Int) (y : (Int × Int) ⊕ (Int)) (hf : Wy_crossings_L4 l0 h l1 l2 = some y) (hk : z_sum (fun q : Int × Int => ZV g x 4 h 4 [(0, (2, l0)), (1, (0, q.1)), (2, (0, q.2))] []) E y) : ZV g x 4 h 4 [(0, (2, l0)), (1, (0, l1)), (2, (0, l2))] [] := by
  unfold Wy_crossings_L4 at hf
  refine z_iload_n X dX9_crossings_4 2 rfl ?_
  refine z_aload_n X dX9_crossings_5 0 rfl ?_
  obtain ⟨g1, hf⟩ := gif hf
  refine y_get X fl_RX9_48 dX9_crossings_6 g1 ?_
  refine z_icmp_ge X dX9_crossings_9 rfl (fun hc9 => ?_) (fun hc9 => ?_)
  · have hf := ift hc9 hf
    cases hf
    exact z_weak [1] rfl (hx0 _ hk)
  · have hf := iff' hc9 hf
    refine z_iload_n X dX9_crossings_12 2 rfl ?_
    refine z_iconst X dX9_crossings_13 kc_1 ?_
    refine z_iadd X dX9_crossings_14 ?_
    refine z_istore_n X dX9_crossings_15 (by decide) (ls' := [(3, (0, w32 (l2 + 1))), (0, (2, l0)), (1, (0, l1)), (2, (0, l2))]) rfl ?_
    obtain ⟨q16, hq16, hf⟩ := obE hf
    have hx16_0 : ∀ e63 : Int, (e63 : Int) = q16 → ZV g x 4 h 63 [(0, (2, l0)), (1, (0, e63)), (2, (0, l2))] [] := by
      intro e63 hq
      subst hq
      refine z_iinc X dX9_crossings_63 2 rfl (by decide) (ls' := [(2, (0, w32 (l2 + 1))), (0, (2, l0)), (1, (0, e63))]) rfl ?_
      refine z_goto X dX9_crossings_66 rfl ?_
      cases hf
      exact z_weak [1, 2, 0] rfl hk
    exact z_weak [1, 2, 3, 0] rfl (z_loop (Z := (fun q : Int × Int => ZV g x 4 h 16 [(0, (2, l0)), (1, (0, q.1)), (2, (0, l2)), (3, (0, q.2))] [])) (E := fun q => q = q16) (fun q y hb hk => z_Wy_crossings_L16 X hd l0 l2 h (fun q => q = q16) hx16_0 q.1 q.2 y hb hk) LN (l1, w32 (l2 + 1)) q16 hq16 rfl)
set_option maxHeartbeats 4000000 in
set_option maxRecDepth 100000 in
theorem c_Wy_crossings {l : Launch} {g : GP} (d : Nat) (hd : 2 ≤ d) (l0 : Int) (h : Hp) (y : Int) (hf : Wy_crossings l0 h = some y) : zM l yX9_crossings cX9_crossings 4 (some .int) d 0 0 g 157 h [(2, l0)] 157 h (some (0, y)) := by
  obtain ⟨d, rfl⟩ : ∃ k, d = k + 1 := ⟨d - 1, by omega⟩
  replace hd : 1 ≤ d := Nat.le_of_succ_le_succ hd
  refine z_start (by decide) (Nat.le_of_ble_eq_true rfl) (fun x X hK _ _ _ hl => ?_)
  show ZV g x 4 h 0 [(0, (2, l0))] []
  unfold Wy_crossings at hf
  refine z_iconst X dX9_crossings_0 kc_0 ?_
  refine z_istore_n X dX9_crossings_1 (by decide) (ls' := [(1, (0, 0)), (0, (2, l0))]) rfl ?_
  refine z_iconst X dX9_crossings_2 kc_1 ?_
  refine z_istore_n X dX9_crossings_3 (by decide) (ls' := [(2, (0, 1)), (1, (0, 0)), (0, (2, l0))]) rfl ?_
  obtain ⟨q4, hq4, hf⟩ := obE hf
  have hx4_0 : ∀ e69 : Int, (e69 : Int) = q4 → ZV g x 4 h 69 [(1, (0, e69))] [] := by
    intro e69 hq
    subst hq
    refine z_iload_n X dX9_crossings_69 0 rfl ?_
    cases hf
    exact z_iret X hK dX9_crossings_70
  exact z_weak [2, 1, 0] rfl (z_loop (Z := (fun q : Int × Int => ZV g x 4 h 4 [(0, (2, l0)), (1, (0, q.1)), (2, (0, q.2))] [])) (E := fun q => q = q4) (fun q y hb hk => z_Wy_crossings_L4 X hd l0 h (fun q => q = q4) hx4_0 q.1 q.2 y hb hk) LN (0, 1) q4 hq4 rfl)
set_option maxHeartbeats 4000000 in
set_option maxRecDepth 100000 in
theorem c_WF_cover {l : Launch} {g : GP} (d : Nat) (hd : 0 ≤ d) (l0 l1 l2 l3 : Int) (h : Hp) (y : Int) (hf : WF_cover l0 l1 l2 l3 = some y) : zM l yX10_cover cX10_cover 4 (some .int) d 0 0 g 157 h [(0, l0), (0, l1), (0, l2), (0, l3)] 157 h (some (0, y)) := by
  refine z_start (by decide) (Nat.le_of_ble_eq_true rfl) (fun x X hK _ _ _ hl => ?_)
  show ZV g x 4 h 0 [(0, (0, l0)), (1, (0, l1)), (2, (0, l2)), (3, (0, l3))] []
  unfold WF_cover at hf
  refine z_iload_n X dX10_cover_0 0 rfl ?_
  refine z_bipush X dX10_cover_1 kb_12 kc_12 ?_
  refine z_ishl X dX10_cover_3 ?_
  refine z_iload_n X dX10_cover_4 1 rfl ?_
  refine z_bipush X dX10_cover_5 kb_8 kc_8 ?_
  refine z_ishl X dX10_cover_7 ?_
  refine z_ior X dX10_cover_8 ?_
  refine z_iload_n X dX10_cover_9 2 rfl ?_
  refine z_iconst X dX10_cover_10 kc_4 ?_
  refine z_ishl X dX10_cover_11 ?_
  refine z_ior X dX10_cover_12 ?_
  refine z_iload_n X dX10_cover_13 3 rfl ?_
  refine z_ior X dX10_cover_14 ?_
  cases hf
  exact z_iret X hK dX10_cover_15
set_option maxHeartbeats 4000000 in
set_option maxRecDepth 100000 in
theorem c_WF_push {l : Launch} {g : GP} (d : Nat) (hd : 0 ≤ d) (l0 l1 l2 l3 l4 l5 : Int) (h : Hp) (y : Hp) (hf : WF_push l0 l1 l2 l3 l4 l5 h = some y) : zM l yX10_push cX10_push 7 none d 0 0 g 157 h [(2, l0), (0, l1), (0, l2), (0, l3), (0, l4), (1, l5)] 157 y none := by
  refine z_start (by decide) (Nat.le_of_ble_eq_true rfl) (fun x X hK _ _ _ hl => ?_)
  show ZV g x 7 h 0 [(0, (2, l0)), (1, (0, l1)), (2, (0, l2)), (3, (0, l3)), (4, (0, l4)), (5, (1, l5))] []
  unfold WF_push at hf
  refine z_aload_n X dX10_push_0 0 rfl ?_
  obtain ⟨g1, hf⟩ := gif hf
  refine y_get X fl_RX10_42 dX10_push_1 g1 ?_
  refine z_sipush X dX10_push_4 ks_1024 kc_1024 ?_
  refine z_icmp_ge X dX10_push_7 rfl (fun hc7 => ?_) (fun hc7 => ?_)
  · have hf := ift hc7 hf
    cases hf
    exact z_vret X hK dX10_push_61
  · have hf := iff' hc7 hf
    refine z_aload_n X dX10_push_10 0 rfl ?_
    refine y_get X fl_RX10_9 dX10_push_11 g1 ?_
    refine z_aload_n X dX10_push_14 0 rfl ?_
    refine y_get X fl_RX10_42 dX10_push_15 g1 ?_
    refine z_iconst X dX10_push_18 kc_2 ?_
    refine z_iload_n X dX10_push_19 1 rfl ?_
    refine z_bipush X dX10_push_20 kb_12 kc_12 ?_
    refine z_imul X dX10_push_22 ?_
    refine z_iload_n X dX10_push_23 2 rfl ?_
    refine z_iadd X dX10_push_24 ?_
    refine z_imul X dX10_push_25 ?_
    refine z_iload_n X dX10_push_26 3 rfl ?_
    refine z_iadd X dX10_push_27 ?_
    obtain ⟨g2, hf⟩ := gif hf
    refine y_iast X dX10_push_28 g2 ?_
    let h_1 : Hp := hput h (h l0 4) (h l0 3) (w32 ((w32 (2 * (w32 ((w32 (l1 * 12)) + l2)))) + l3))
    refine z_aload_n X dX10_push_29 0 rfl ?_
    refine y_get X fl_RX10_15 dX10_push_30 g1 ?_
    refine z_aload_n X dX10_push_33 0 rfl ?_
    refine y_get X fl_RX10_42 dX10_push_34 g1 ?_
    refine z_iload X dX10_push_37 4 rfl ?_
    obtain ⟨g3, hf⟩ := gif hf
    refine y_iast X dX10_push_39 g3 ?_
    let h_2 : Hp := hput h_1 (h_1 l0 5) (h_1 l0 3) l4
    refine z_aload_n X dX10_push_40 0 rfl ?_
    refine y_get X fl_RX10_18 dX10_push_41 g1 ?_
    refine z_aload_n X dX10_push_44 0 rfl ?_
    refine y_get X fl_RX10_42 dX10_push_45 g1 ?_
    refine z_lload X dX10_push_48 5 rfl ?_
    obtain ⟨g4, hf⟩ := gif hf
    refine y_last X dX10_push_50 g4 ?_
    let h_3 : Hp := hput h_2 (h_2 l0 6) (h_2 l0 3) l5
    refine z_aload_n X dX10_push_51 0 rfl ?_
    refine z_dup X ne2 dX10_push_52 ?_
    refine y_get X fl_RX10_42 dX10_push_53 g1 ?_
    refine z_iconst X dX10_push_56 kc_1 ?_
    refine z_iadd X dX10_push_57 ?_
    refine y_put X fl_RX10_42 dX10_push_58 g1 rfl (by decide) ?_
    let h_4 : Hp := hput h_3 l0 3 (w32 ((h_3 l0 3) + 1))
    cases hf
    exact z_vret X hK dX10_push_61
set_option maxHeartbeats 4000000 in
set_option maxRecDepth 100000 in
theorem z_WF_putGuest_j258 {g : GP} {x : CX} {d : Nat} (X : zX g x RX10 cX10_putGuest 13 (d + 1)) (hd : 1 ≤ d) (l0 l1 l2 l3 l4 l5 s0 s1 s2 : Int) (h : Hp) (y : (Int × Hp) ⊕ ((Int × Int × Int × Int × Hp) ⊕ (Hp))) (hf : WF_putGuest_j258 l0 l1 l2 l3 l4 l5 s0 s1 s2 h = some y) (E : (Int × Int × Int × Int × Hp) ⊕ (Hp) → Prop) (hx0 : ∀ e : Int × Int × Int × Int × Hp, E (.inl e) → ZV g x 13 e.2.2.2.2 149 [(0, (2, l0)), (2, (0, l2)), (4, (0, l4)), (5, (0, e.1)), (6, (0, e.2.1)), (7, (0, e.2.2.1)), (8, (1, e.2.2.2.1))] []) (hx1 : ∀ e : Hp, E (.inr e) → ZV g x 13 e 268 [(0, (2, l0)), (1, (0, l1)), (2, (0, l2)), (3, (0, l3)), (4, (0, l4))] []) (hk : z_sum (fun q : Int × Hp => ZV g x 13 q.2 40 [(0, (2, l0)), (1, (0, l1)), (2, (0, l2)), (3, (0, l3)), (4, (0, l4)), (5, (0, q.1))] []) E y) : ZV g x 13 h 258 [(0, (2, l0)), (1, (0, l1)), (2, (0, l2)), (3, (0, l3)), (4, (0, l4)), (5, (0, l5))] [(1, s0), (1, s1), (2, s2)] := by
  unfold WF_putGuest_j258 at hf
  refine z_lsub X dX10_putGuest_258 ?_
  obtain ⟨g11, hf⟩ := gif hf
  refine y_put X fl_RX10_55 dX10_putGuest_259 g11 rfl (by decide) ?_
  let h_1 : Hp := hput h s2 9 (w64 (s1 - s0))
  refine z_iinc X dX10_putGuest_262 5 rfl (by decide) (ls' := [(5, (0, w32 (l5 + 1))), (0, (2, l0)), (1, (0, l1)), (2, (0, l2)), (3, (0, l3)), (4, (0, l4))]) rfl ?_
  refine z_goto X dX10_putGuest_265 rfl ?_
  cases hf
  exact z_weak [1, 2, 3, 4, 5, 0] rfl hk
set_option maxHeartbeats 4000000 in
set_option maxRecDepth 100000 in
theorem z_WF_putGuest_j257 {g : GP} {x : CX} {d : Nat} (X : zX g x RX10 cX10_putGuest 13 (d + 1)) (hd : 1 ≤ d) (l0 l1 l2 l3 l4 l5 s0 s1 : Int) (h : Hp) (y : (Int × Hp) ⊕ ((Int × Int × Int × Int × Hp) ⊕ (Hp))) (hf : WF_putGuest_j257 l0 l1 l2 l3 l4 l5 s0 s1 h = some y) (E : (Int × Int × Int × Int × Hp) ⊕ (Hp) → Prop) (hx0 : ∀ e : Int × Int × Int × Int × Hp, E (.inl e) → ZV g x 13 e.2.2.2.2 149 [(0, (2, l0)), (2, (0, l2)), (4, (0, l4)), (5, (0, e.1)), (6, (0, e.2.1)), (7, (0, e.2.2.1)), (8, (1, e.2.2.2.1))] []) (hx1 : ∀ e : Hp, E (.inr e) → ZV g x 13 e 268 [(0, (2, l0)), (1, (0, l1)), (2, (0, l2)), (3, (0, l3)), (4, (0, l4))] []) (hk : z_sum (fun q : Int × Hp => ZV g x 13 q.2 40 [(0, (2, l0)), (1, (0, l1)), (2, (0, l2)), (3, (0, l3)), (4, (0, l4)), (5, (0, q.1))] []) E y) : ZV g x 13 h 257 [(0, (2, l0)), (1, (0, l1)), (2, (0, l2)), (3, (0, l3)), (4, (0, l4)), (5, (0, l5))] [(1, s0), (2, s1)] := by
  unfold WF_putGuest_j257 at hf
  refine z_lconst0 X dX10_putGuest_257 ?_
  exact (z_WF_putGuest_j258 X hd l0 l1 l2 l3 l4 l5 0 s0 s1 h _ hf E hx0 hx1 hk)
set_option maxHeartbeats 4000000 in
set_option maxRecDepth 100000 in
theorem z_WF_putGuest_j230 {g : GP} {x : CX} {d : Nat} (X : zX g x RX10 cX10_putGuest 13 (d + 1)) (hd : 1 ≤ d) (l0 l1 l2 l3 l4 l5 l8 l10 : Int) (h : Hp) (y : (Int × Hp) ⊕ ((Int × Int × Int × Int × Hp) ⊕ (Hp))) (hf : WF_putGuest_j230 l0 l1 l2 l3 l4 l5 l8 l10 h = some y) (E : (Int × Int × Int × Int × Hp) ⊕ (Hp) → Prop) (hx0 : ∀ e : Int × Int × Int × Int × Hp, E (.inl e) → ZV g x 13 e.2.2.2.2 149 [(0, (2, l0)), (2, (0, l2)), (4, (0, l4)), (5, (0, e.1)), (6, (0, e.2.1)), (7, (0, e.2.2.1)), (8, (1, e.2.2.2.1))] []) (hx1 : ∀ e : Hp, E (.inr e) → ZV g x 13 e 268 [(0, (2, l0)), (1, (0, l1)), (2, (0, l2)), (3, (0, l3)), (4, (0, l4))] []) (hk : z_sum (fun q : Int × Hp => ZV g x 13 q.2 40 [(0, (2, l0)), (1, (0, l1)), (2, (0, l2)), (3, (0, l3)), (4, (0, l4)), (5, (0, q.1))] []) E y) : ZV g x 13 h 230 [(0, (2, l0)), (1, (0, l1)), (2, (0, l2)), (3, (0, l3)), (4, (0, l4)), (5, (0, l5)), (8, (1, l8)), (10, (1, l10))] [] := by
  unfold WF_putGuest_j230 at hf
  refine z_aload_n X dX10_putGuest_230 0 rfl ?_
  refine z_dup X ne2 dX10_putGuest_231 ?_
  obtain ⟨g10, hf⟩ := gif hf
  refine y_get X fl_RX10_55 dX10_putGuest_232 g10 ?_
  refine z_lload X dX10_putGuest_235 6 rfl ?_
  refine z_lconst0 X dX10_putGuest_237 ?_
  refine z_l_le X dX10_putGuest_238 dX10_putGuest_239 rfl (fun hc238 => ?_) (fun hc238 => ?_)
  · have hf := ift hc238 hf
    exact z_weak [0, 1, 2, 3, 4, 5] rfl (z_WF_putGuest_j257 X hd l0 l1 l2 l3 l4 l5 (h l0 9) l0 h _ hf E hx0 hx1 hk)
  · have hf := iff' hc238 hf
    refine z_lload X dX10_putGuest_242 7 rfl ?_
    refine z_lconst0 X dX10_putGuest_244 ?_
    refine z_l_le X dX10_putGuest_245 dX10_putGuest_246 rfl (fun hc245 => ?_) (fun hc245 => ?_)
    · have hf := ift hc245 hf
      exact z_weak [0, 1, 2, 3, 4, 5] rfl (z_WF_putGuest_j257 X hd l0 l1 l2 l3 l4 l5 (h l0 9) l0 h _ hf E hx0 hx1 hk)
    · have hf := iff' hc245 hf
      refine z_lload X dX10_putGuest_249 6 rfl ?_
      refine z_lload X dX10_putGuest_251 7 rfl ?_
      refine z_lmul X dX10_putGuest_253 ?_
      refine z_goto X dX10_putGuest_254 rfl ?_
      exact z_weak [0, 1, 2, 3, 4, 5] rfl (z_WF_putGuest_j258 X hd l0 l1 l2 l3 l4 l5 (w64 (l8 * l10)) (h l0 9) l0 h _ hf E hx0 hx1 hk)
set_option maxHeartbeats 4000000 in
set_option maxRecDepth 100000 in
theorem z_WF_putGuest_j77 {g : GP} {x : CX} {d : Nat} (X : zX g x RX10 cX10_putGuest 13 (d + 1)) (hd : 1 ≤ d) (l0 l1 l2 l3 l4 l5 l6 s0 : Int) (h : Hp) (y : (Int × Hp) ⊕ ((Int × Int × Int × Int × Hp) ⊕ (Hp))) (hf : WF_putGuest_j77 l0 l1 l2 l3 l4 l5 l6 s0 h = some y) (E : (Int × Int × Int × Int × Hp) ⊕ (Hp) → Prop) (hx0 : ∀ e : Int × Int × Int × Int × Hp, E (.inl e) → ZV g x 13 e.2.2.2.2 149 [(0, (2, l0)), (2, (0, l2)), (4, (0, l4)), (5, (0, e.1)), (6, (0, e.2.1)), (7, (0, e.2.2.1)), (8, (1, e.2.2.2.1))] []) (hx1 : ∀ e : Hp, E (.inr e) → ZV g x 13 e 268 [(0, (2, l0)), (1, (0, l1)), (2, (0, l2)), (3, (0, l3)), (4, (0, l4))] []) (hk : z_sum (fun q : Int × Hp => ZV g x 13 q.2 40 [(0, (2, l0)), (1, (0, l1)), (2, (0, l2)), (3, (0, l3)), (4, (0, l4)), (5, (0, q.1))] []) E y) : ZV g x 13 h 77 [(0, (2, l0)), (1, (0, l1)), (2, (0, l2)), (3, (0, l3)), (4, (0, l4)), (5, (0, l5)), (6, (0, l6))] [(0, s0)] := by
  unfold WF_putGuest_j77 at hf
  refine z_istore X dX10_putGuest_77 (by decide) (ls' := [(7, (0, s0)), (0, (2, l0)), (1, (0, l1)), (2, (0, l2)), (3, (0, l3)), (4, (0, l4)), (5, (0, l5)), (6, (0, l6))]) rfl ?_
  refine z_aload_n X dX10_putGuest_79 1 rfl ?_
  obtain ⟨g6, hf⟩ := gif hf
  refine y_get X fl_RX10_22 dX10_putGuest_80 g6 ?_
  refine z_iload_n X dX10_putGuest_83 2 rfl ?_
  refine z_iconst X dX10_putGuest_84 kc_0 ?_
  refine z_iload X dX10_putGuest_85 5 rfl ?_
  refine z_iload X dX10_putGuest_87 6 rfl ?_
  refine z_iload X dX10_putGuest_89 7 rfl ?_
  refine z_iload X dX10_putGuest_91 0 rfl ?_
  obtain ⟨g7, hf⟩ := gif hf
  obtain ⟨r93, hr93, hf⟩ := obE hf
  refine y_V1 X cv_RX10_108 dX10_putGuest_93 g7 (c_Ch_value d (Nat.le_trans (by decide) hd) (h l0 0) l1 0 l4 l5 l6 s0 h r93 hr93) (as := [(0, l1), (0, 0), (0, l4), (0, l5), (0, l6), (0, s0)]) rfl rfl (Nat.le_of_ble_eq_true rfl) z00 ?_
  refine z_lstore X dX10_putGuest_96 (by decide) (ls' := [(8, (1, r93)), (7, (0, s0)), (0, (2, l0)), (1, (0, l1)), (2, (0, l2)), (3, (0, l3)), (4, (0, l4)), (5, (0, l5)), (6, (0, l6))]) rfl ?_
  refine z_aload_n X dX10_putGuest_98 2 rfl ?_
  refine y_get X fl_RX10_22 dX10_putGuest_99 g6 ?_
  refine z_aload_n X dX10_putGuest_102 2 rfl ?_
  refine y_get X fl_RX10_32 dX10_putGuest_103 g6 ?_
  obtain ⟨g8, hf⟩ := gif hf
  refine y_get X fl_RX10_72 dX10_putGuest_106 g8 ?_
  refine z_iload_n X dX10_putGuest_109 4 rfl ?_
  obtain ⟨g9, hf⟩ := gif hf
  refine y_iald X dX10_putGuest_110 g9 ?_
  refine z_iconst X dX10_putGuest_111 kc_1 ?_
  refine z_aload_n X dX10_putGuest_112 2 rfl ?_
  refine y_get X fl_RX10_46 dX10_putGuest_113 g6 ?_
  refine z_aload_n X dX10_putGuest_116 2 rfl ?_
  refine y_get X fl_RX10_52 dX10_putGuest_117 g6 ?_
  refine z_iload X dX10_putGuest_120 6 rfl ?_
  refine z_iload X dX10_putGuest_122 7 rfl ?_
  obtain ⟨r124, hr124, hf⟩ := obE hf
  refine y_V1 X cv_RX10_108 dX10_putGuest_124 g7 (c_Ch_value d (Nat.le_trans (by decide) hd) (h l0 0) (h (h (h l0 1) 6) l2) 1 (h l0 10) (h l0 11) l4 l5 h r124 hr124) (as := [(0, h (h (h l0 1) 6) l2), (0, 1), (0, h l0 10), (0, h l0 11), (0, l4), (0, l5)]) rfl rfl (Nat.le_of_ble_eq_true rfl) z00 ?_
  refine z_lstore X dX10_putGuest_127 (by decide) (ls' := [(10, (1, r124)), (8, (1, r93)), (7, (0, s0)), (0, (2, l0)), (1, (0, l1)), (2, (0, l2)), (3, (0, l3)), (4, (0, l4)), (5, (0, l5)), (6, (0, l6))]) rfl ?_
  refine z_lload X dX10_putGuest_129 1 rfl ?_
  refine z_lconst0 X dX10_putGuest_131 ?_
  refine z_l_le X dX10_putGuest_132 dX10_putGuest_133 rfl (fun hc132 => ?_) (fun hc132 => ?_)
  · have hf := ift hc132 hf
    exact z_weak [3, 4, 5, 6, 7, 8, 1, 0] rfl (z_WF_putGuest_j230 X hd l0 l1 l2 l3 l4 l5 r93 r124 h _ hf E hx0 hx1 hk)
  · have hf := iff' hc132 hf
    refine z_aload_n X dX10_putGuest_136 3 rfl ?_
    refine y_get X fl_RX10_55 dX10_putGuest_137 g6 ?_
    refine z_lload X dX10_putGuest_140 1 rfl ?_
    obtain ⟨g12, hf⟩ := gif hf
    refine z_ldiv X dX10_putGuest_142 g12 ?_
    refine z_lload X dX10_putGuest_143 0 rfl ?_
    refine z_l_ge X dX10_putGuest_145 dX10_putGuest_146 rfl (fun hc145 => ?_) (fun hc145 => ?_)
    · have hf := ift hc145 hf
      exact z_weak [3, 4, 5, 6, 7, 8, 1, 0] rfl (z_WF_putGuest_j230 X hd l0 l1 l2 l3 l4 l5 r93 r124 h _ hf E hx0 hx1 hk)
    · have hf := iff' hc145 hf
      cases hf
      exact z_weak [3, 5, 7, 8, 9, 2, 1] rfl (hx0 _ hk)
set_option maxHeartbeats 4000000 in
set_option maxRecDepth 100000 in
theorem z_WF_putGuest_j62 {g : GP} {x : CX} {d : Nat} (X : zX g x RX10 cX10_putGuest 13 (d + 1)) (hd : 1 ≤ d) (l0 l1 l2 l3 l4 l5 s0 : Int) (h : Hp) (y : (Int × Hp) ⊕ ((Int × Int × Int × Int × Hp) ⊕ (Hp))) (hf : WF_putGuest_j62 l0 l1 l2 l3 l4 l5 s0 h = some y) (E : (Int × Int × Int × Int × Hp) ⊕ (Hp) → Prop) (hx0 : ∀ e : Int × Int × Int × Int × Hp, E (.inl e) → ZV g x 13 e.2.2.2.2 149 [(0, (2, l0)), (2, (0, l2)), (4, (0, l4)), (5, (0, e.1)), (6, (0, e.2.1)), (7, (0, e.2.2.1)), (8, (1, e.2.2.2.1))] []) (hx1 : ∀ e : Hp, E (.inr e) → ZV g x 13 e 268 [(0, (2, l0)), (1, (0, l1)), (2, (0, l2)), (3, (0, l3)), (4, (0, l4))] []) (hk : z_sum (fun q : Int × Hp => ZV g x 13 q.2 40 [(0, (2, l0)), (1, (0, l1)), (2, (0, l2)), (3, (0, l3)), (4, (0, l4)), (5, (0, q.1))] []) E y) : ZV g x 13 h 62 [(0, (2, l0)), (1, (0, l1)), (2, (0, l2)), (3, (0, l3)), (4, (0, l4)), (5, (0, l5))] [(0, s0)] := by
  unfold WF_putGuest_j62 at hf
  refine z_istore X dX10_putGuest_62 (by decide) (ls' := [(6, (0, s0)), (0, (2, l0)), (1, (0, l1)), (2, (0, l2)), (3, (0, l3)), (4, (0, l4)), (5, (0, l5))]) rfl ?_
  refine z_iload_n X dX10_putGuest_64 4 rfl ?_
  refine z_if_eq X dX10_putGuest_65 rfl (fun hc65 => ?_) (fun hc65 => ?_)
  · have hf := ift hc65 hf
    refine z_iload X dX10_putGuest_75 6 rfl ?_
    exact z_weak [1, 2, 3, 4, 5, 6, 0] rfl (z_WF_putGuest_j77 X hd l0 l1 l2 l3 l4 l5 s0 l5 h _ hf E hx0 hx1 hk)
  · have hf := iff' hc65 hf
    refine z_aload_n X dX10_putGuest_68 1 rfl ?_
    obtain ⟨g13, hf⟩ := gif hf
    refine y_get X fl_RX10_103 dX10_putGuest_69 g13 ?_
    refine z_goto X dX10_putGuest_72 rfl ?_
    exact z_weak [1, 2, 3, 4, 5, 6, 0] rfl (z_WF_putGuest_j77 X hd l0 l1 l2 l3 l4 l5 s0 (h l0 13) h _ hf E hx0 hx1 hk)
set_option maxHeartbeats 4000000 in
set_option maxRecDepth 100000 in
theorem z_WF_putGuest_L40 {g : GP} {x : CX} {d : Nat} (X : zX g x RX10 cX10_putGuest 13 (d + 1)) (hd : 1 ≤ d) (l0 l1 l2 l3 l4 : Int)  (E : (Int × Int × Int × Int × Hp) ⊕ (Hp) → Prop) (hx0 : ∀ e : Int × Int × Int × Int × Hp, E (.inl e) → ZV g x 13 e.2.2.2.2 149 [(0, (2, l0)), (2, (0, l2)), (4, (0, l4)), (5, (0, e.1)), (6, (0, e.2.1)), (7, (0, e.2.2.1)), (8, (1, e.2.2.2.1))] []) (hx1 : ∀ e : Hp, E (.inr e) → ZV g x 13 e 268 [(0, (2, l0)), (1, (0, l1)), (2, (0, l2)), (3, (0, l3)), (4, (0, l4))] []) (l5 : Int) (h : Hp) (y : (Int × Hp) ⊕ ((Int × Int × Int × Int × Hp) ⊕ (Hp))) (hf : WF_putGuest_L40 l0 l1 l2 l3 l4 l5 h = some y) (hk : z_sum (fun q : Int × Hp => ZV g x 13 q.2 40 [(0, (2, l0)), (1, (0, l1)), (2, (0, l2)), (3, (0, l3)), (4, (0, l4)), (5, (0, q.1))] []) E y) : ZV g x 13 h 40 [(0, (2, l0)), (1, (0, l1)), (2, (0, l2)), (3, (0, l3)), (4, (0, l4)), (5, (0, l5))] [] := by
  unfold WF_putGuest_L40 at hf
  refine z_iload X dX10_putGuest_40 5 rfl ?_
  refine z_aload_n X dX10_putGuest_42 0 rfl ?_
  obtain ⟨g5, hf⟩ := gif hf
  refine y_get X fl_RX10_52 dX10_putGuest_43 g5 ?_
  refine z_icmp_gt X dX10_putGuest_46 rfl (fun hc46 => ?_) (fun hc46 => ?_)
  · have hf := ift hc46 hf
    cases hf
    exact z_weak [0, 1, 2, 3, 4] rfl (hx1 _ hk)
  · have hf := iff' hc46 hf
    refine z_iload_n X dX10_putGuest_49 3 rfl ?_
    refine z_if_eq X dX10_putGuest_50 rfl (fun hc50 => ?_) (fun hc50 => ?_)
    · rw [if_pos hc50] at hf
      refine z_iload X dX10_putGuest_60 5 rfl ?_
      exact (z_WF_putGuest_j62 X hd l0 l1 l2 l3 l4 l5 l5 h _ hf E hx0 hx1 hk)
    · rw [if_neg hc50] at hf
      refine z_aload_n X dX10_putGuest_53 0 rfl ?_
      refine y_get X fl_RX10_100 dX10_putGuest_54 g5 ?_
      refine z_goto X dX10_putGuest_57 rfl ?_
      exact (z_WF_putGuest_j62 X hd l0 l1 l2 l3 l4 l5 (h l0 12) h _ hf E hx0 hx1 hk)
set_option maxHeartbeats 4000000 in
set_option maxRecDepth 100000 in
theorem z_WF_putGuest_j38 {g : GP} {x : CX} {d : Nat} (X : zX g x RX10 cX10_putGuest 13 (d + 1)) (hd : 1 ≤ d) (l0 l1 l2 l3 l4 s0 : Int) (h : Hp) (y : (Int × Hp) ⊕ ((Int × Int × Int × Int × Int × Hp) ⊕ (Hp))) (hf : WF_putGuest_j38 l0 l1 l2 l3 l4 s0 h = some y) (E : (Int × Int × Int × Int × Int × Hp) ⊕ (Hp) → Prop) (hx0 : ∀ e : Int × Int × Int × Int × Int × Hp, E (.inl e) → ZV g x 13 e.2.2.2.2.2 149 [(0, (2, l0)), (2, (0, l2)), (4, (0, e.1)), (5, (0, e.2.1)), (6, (0, e.2.2.1)), (7, (0, e.2.2.2.1)), (8, (1, e.2.2.2.2.1))] []) (hx1 : ∀ e : Hp, E (.inr e) → ZV g x 13 e 274 [] []) (hk : z_sum (fun q : Int × Hp => ZV g x 13 q.2 16 [(0, (2, l0)), (1, (0, l1)), (2, (0, l2)), (3, (0, l3)), (4, (0, q.1))] []) E y) : ZV g x 13 h 38 [(0, (2, l0)), (1, (0, l1)), (2, (0, l2)), (3, (0, l3)), (4, (0, l4))] [(0, s0)] := by
  unfold WF_putGuest_j38 at hf
  refine z_istore X dX10_putGuest_38 (by decide) (ls' := [(5, (0, s0)), (0, (2, l0)), (1, (0, l1)), (2, (0, l2)), (3, (0, l3)), (4, (0, l4))]) rfl ?_
  obtain ⟨q40, hq40, hf⟩ := obE hf
  have hx40_0 : ∀ e149 : Int × Int × Int × Int × Hp, (.inl e149 : (Int × Int × Int × Int × Hp) ⊕ (Hp)) = q40 → ZV g x 13 e149.2.2.2.2 149 [(0, (2, l0)), (2, (0, l2)), (4, (0, l4)), (5, (0, e149.1)), (6, (0, e149.2.1)), (7, (0, e149.2.2.1)), (8, (1, e149.2.2.2.1))] [] := by
    intro e149 hq
    subst hq
    dsimp only at hf
    cases hf
    exact (hx0 _ hk)
  have hx40_1 : ∀ e268 : Hp, (.inr e268 : (Int × Int × Int × Int × Hp) ⊕ (Hp)) = q40 → ZV g x 13 e268 268 [(0, (2, l0)), (1, (0, l1)), (2, (0, l2)), (3, (0, l3)), (4, (0, l4))] [] := by
    intro e268 hq
    subst hq
    dsimp only at hf
    refine z_iinc X dX10_putGuest_268 4 rfl (by decide) (ls' := [(4, (0, w32 (l4 + 1))), (0, (2, l0)), (1, (0, l1)), (2, (0, l2)), (3, (0, l3))]) rfl ?_
    refine z_goto X dX10_putGuest_271 rfl ?_
    cases hf
    exact z_weak [1, 2, 3, 4, 0] rfl hk
  exact z_weak [1, 2, 3, 4, 5, 0] rfl (z_loop (Z := (fun q : Int × Hp => ZV g x 13 q.2 40 [(0, (2, l0)), (1, (0, l1)), (2, (0, l2)), (3, (0, l3)), (4, (0, l4)), (5, (0, q.1))] [])) (E := fun q => q = q40) (fun q y hb hk => z_WF_putGuest_L40 X hd l0 l1 l2 l3 l4 (fun q => q = q40) hx40_0 hx40_1 q.1 q.2 y hb hk) LN (s0, h) q40 hq40 rfl)
set_option maxHeartbeats 4000000 in
set_option maxRecDepth 100000 in
theorem z_WF_putGuest_L16 {g : GP} {x : CX} {d : Nat} (X : zX g x RX10 cX10_putGuest 13 (d + 1)) (hd : 1 ≤ d) (l0 l1 l2 l3 : Int)  (E : (Int × Int × Int × Int × Int × Hp) ⊕ (Hp) → Prop) (hx0 : ∀ e : Int × Int × Int × Int × Int × Hp, E (.inl e) → ZV g x 13 e.2.2.2.2.2 149 [(0, (2, l0)), (2, (0, l2)), (4, (0, e.1)), (5, (0, e.2.1)), (6, (0, e.2.2.1)), (7, (0, e.2.2.2.1)), (8, (1, e.2.2.2.2.1))] []) (hx1 : ∀ e : Hp, E (.inr e) → ZV g x 13 e 274 [] []) (l4 : Int) (h : Hp) (y : (Int × Hp) ⊕ ((Int × Int × Int × Int × Int × Hp) ⊕ (Hp))) (hf : WF_putGuest_L16 l0 l1 l2 l3 l4 h = some y) (hk : z_sum (fun q : Int × Hp => ZV g x 13 q.2 16 [(0, (2, l0)), (1, (0, l1)), (2, (0, l2)), (3, (0, l3)), (4, (0, q.1))] []) E y) : ZV g x 13 h 16 [(0, (2, l0)), (1, (0, l1)), (2, (0, l2)), (3, (0, l3)), (4, (0, l4))] [] := by
  unfold WF_putGuest_L16 at hf
  refine z_iload X dX10_putGuest_16 4 rfl ?_
  refine z_aload_n X dX10_putGuest_18 0 rfl ?_
  obtain ⟨g4, hf⟩ := gif hf
  refine y_get X fl_RX10_100 dX10_putGuest_19 g4 ?_
  refine z_icmp_gt X dX10_putGuest_22 rfl (fun hc22 => ?_) (fun hc22 => ?_)
  · have hf := ift hc22 hf
    cases hf
    exact z_weak [] rfl (hx1 _ hk)
  · have hf := iff' hc22 hf
    refine z_iload_n X dX10_putGuest_25 3 rfl ?_
    refine z_if_eq X dX10_putGuest_26 rfl (fun hc26 => ?_) (fun hc26 => ?_)
    · rw [if_pos hc26] at hf
      refine z_iload X dX10_putGuest_36 4 rfl ?_
      exact (z_WF_putGuest_j38 X hd l0 l1 l2 l3 l4 l4 h _ hf E hx0 hx1 hk)
    · rw [if_neg hc26] at hf
      refine z_aload_n X dX10_putGuest_29 0 rfl ?_
      refine y_get X fl_RX10_103 dX10_putGuest_30 g4 ?_
      refine z_goto X dX10_putGuest_33 rfl ?_
      exact (z_WF_putGuest_j38 X hd l0 l1 l2 l3 l4 (h l0 13) h _ hf E hx0 hx1 hk)
set_option maxHeartbeats 4000000 in
set_option maxRecDepth 100000 in
theorem c_WF_putGuest {l : Launch} {g : GP} (d : Nat) (hd : 2 ≤ d) (l0 l1 l2 : Int) (h : Hp) (y : Int × Hp) (hf : WF_putGuest l0 l1 l2 h = some y) : zM l yX10_putGuest cX10_putGuest 13 (some .boolean) d 0 0 g 157 h [(2, l0), (0, l1), (0, l2)] 157 y.2 (some (0, y.1)) := by
  obtain ⟨d, rfl⟩ : ∃ k, d = k + 1 := ⟨d - 1, by omega⟩
  replace hd : 1 ≤ d := Nat.le_of_succ_le_succ hd
  refine z_start (by decide) (Nat.le_of_ble_eq_true rfl) (fun x X hK _ _ _ hl => ?_)
  show ZV g x 13 h 0 [(0, (2, l0)), (1, (0, l1)), (2, (0, l2))] []
  unfold WF_putGuest at hf
  refine z_aload_n X dX10_putGuest_0 0 rfl ?_
  obtain ⟨g1, hf⟩ := gif hf
  refine y_get X fl_RX10_32 dX10_putGuest_1 g1 ?_
  obtain ⟨g2, hf⟩ := gif hf
  refine y_get X fl_RX10_134 dX10_putGuest_4 g2 ?_
  refine z_iload_n X dX10_putGuest_7 1 rfl ?_
  obtain ⟨g3, hf⟩ := gif hf
  refine y_zald X dX10_putGuest_8 g3 ?_
  refine z_istore_n X dX10_putGuest_9 (by decide) (ls' := [(3, (0, h (h (h l0 1) 15) l1)), (0, (2, l0)), (1, (0, l1)), (2, (0, l2))]) rfl ?_
  refine z_aload_n X dX10_putGuest_10 1 rfl ?_
  refine y_get X fl_RX10_46 dX10_putGuest_11 g1 ?_
  refine z_istore X dX10_putGuest_14 (by decide) (ls' := [(4, (0, h l0 10)), (3, (0, h (h (h l0 1) 15) l1)), (0, (2, l0)), (1, (0, l1)), (2, (0, l2))]) rfl ?_
  obtain ⟨q16, hq16, hf⟩ := obE hf
  have hx16_0 : ∀ e149 : Int × Int × Int × Int × Int × Hp, (.inl e149 : (Int × Int × Int × Int × Int × Hp) ⊕ (Hp)) = q16 → ZV g x 13 e149.2.2.2.2.2 149 [(0, (2, l0)), (2, (0, l2)), (4, (0, e149.1)), (5, (0, e149.2.1)), (6, (0, e149.2.2.1)), (7, (0, e149.2.2.2.1)), (8, (1, e149.2.2.2.2.1))] [] := by
    intro e149 hq
    subst hq
    dsimp only at hf
    refine z_aload_n X dX10_putGuest_149 0 rfl ?_
    refine z_aload_n X dX10_putGuest_150 0 rfl ?_
    refine y_get X fl_RX10_78 dX10_putGuest_151 g1 ?_
    refine z_aload_n X dX10_putGuest_154 0 rfl ?_
    refine y_get X fl_RX10_81 dX10_putGuest_155 g1 ?_
    refine z_iconst X dX10_putGuest_158 kc_0 ?_
    refine z_iload X dX10_putGuest_159 2 rfl ?_
    refine z_iload X dX10_putGuest_161 3 rfl ?_
    refine z_iload X dX10_putGuest_163 4 rfl ?_
    refine z_iload X dX10_putGuest_165 5 rfl ?_
    obtain ⟨r167, hr167, hf⟩ := obE hf
    refine y_S1 X cs_RX10_116 dX10_putGuest_167 (c_WF_cover d (Nat.zero_le _) e149.1 e149.2.1 e149.2.2.1 e149.2.2.2.1 e149.2.2.2.2.2 r167 hr167) (as := [(0, e149.1), (0, e149.2.1), (0, e149.2.2.1), (0, e149.2.2.2.1)]) rfl rfl (Nat.le_of_ble_eq_true rfl) z00 ?_
    refine z_aload_n X dX10_putGuest_170 0 rfl ?_
    refine y_get X fl_RX10_55 dX10_putGuest_171 g1 ?_
    refine z_lload X dX10_putGuest_174 6 rfl ?_
    obtain ⟨g14, hf⟩ := gif hf
    refine z_lrem X dX10_putGuest_176 g14 ?_
    obtain ⟨r177, hr177, hf⟩ := obE hf
    refine y_V0 X cv_RX10_120 dX10_putGuest_177 g1 (c_WF_push d (Nat.zero_le _) l0 (e149.2.2.2.2.2 l0 7) (e149.2.2.2.2.2 l0 8) 0 r167 (w64 (Int.tmod (e149.2.2.2.2.2 l0 9) e149.2.2.2.2.1)) e149.2.2.2.2.2 r177 hr177) (as := [(0, e149.2.2.2.2.2 l0 7), (0, e149.2.2.2.2.2 l0 8), (0, 0), (0, r167), (1, w64 (Int.tmod (e149.2.2.2.2.2 l0 9) e149.2.2.2.2.1))]) rfl rfl (Nat.le_of_ble_eq_true rfl) z00 ?_
    refine z_aload_n X dX10_putGuest_180 0 rfl ?_
    refine y_get X fl_RX10_33 dX10_putGuest_181 g1 ?_
    refine z_iload_n X dX10_putGuest_184 1 rfl ?_
    refine z_aload_n X dX10_putGuest_185 0 rfl ?_
    refine y_get X fl_RX10_78 dX10_putGuest_186 g1 ?_
    refine z_aload_n X dX10_putGuest_189 0 rfl ?_
    refine y_get X fl_RX10_81 dX10_putGuest_190 g1 ?_
    obtain ⟨g15, hf⟩ := gif hf
    obtain ⟨r193, hr193, hf⟩ := obE hf
    refine y_V1 X cv_RX10_112 dX10_putGuest_193 g15 (c_Wy_addStep d (Nat.zero_le _) (r177 l0 2) l2 (r177 l0 7) (r177 l0 8) r177 r193 hr193) (as := [(0, l2), (0, r177 l0 7), (0, r177 l0 8)]) rfl rfl (Nat.le_of_ble_eq_true rfl) z00 ?_
    refine z_istore X dX10_putGuest_196 (by decide) (ls' := [(12, (0, r193.1)), (0, (2, l0)), (2, (0, l2)), (4, (0, e149.1)), (5, (0, e149.2.1)), (6, (0, e149.2.2.1)), (7, (0, e149.2.2.2.1)), (8, (1, e149.2.2.2.2.1))]) rfl ?_
    refine z_aload_n X dX10_putGuest_198 1 rfl ?_
    refine z_iload X dX10_putGuest_199 0 rfl ?_
    refine z_iconst X dX10_putGuest_201 kc_0 ?_
    refine z_iconst X dX10_putGuest_202 kc_1 ?_
    refine z_aload_n X dX10_putGuest_203 1 rfl ?_
    refine y_get X fl_RX10_46 dX10_putGuest_204 g1 ?_
    refine z_aload_n X dX10_putGuest_207 1 rfl ?_
    refine y_get X fl_RX10_52 dX10_putGuest_208 g1 ?_
    refine z_iload X dX10_putGuest_211 3 rfl ?_
    refine z_iload X dX10_putGuest_213 4 rfl ?_
    obtain ⟨r215, hr215, hf⟩ := obE hf
    refine y_S1 X cs_RX10_116 dX10_putGuest_215 (c_WF_cover d (Nat.zero_le _) (r193.2 l0 10) (r193.2 l0 11) e149.1 e149.2.1 r193.2 r215 hr215) (as := [(0, r193.2 l0 10), (0, r193.2 l0 11), (0, e149.1), (0, e149.2.1)]) rfl rfl (Nat.le_of_ble_eq_true rfl) z00 ?_
    refine z_aload_n X dX10_putGuest_218 1 rfl ?_
    refine y_get X fl_RX10_55 dX10_putGuest_219 g1 ?_
    refine z_lload X dX10_putGuest_222 7 rfl ?_
    refine z_ldiv X dX10_putGuest_224 g14 ?_
    obtain ⟨r225, hr225, hf⟩ := obE hf
    refine y_V0 X cv_RX10_120 dX10_putGuest_225 g1 (c_WF_push d (Nat.zero_le _) l0 r193.1 0 1 r215 (w64 (Int.tdiv (r193.2 l0 9) e149.2.2.2.2.1)) r193.2 r225 hr225) (as := [(0, r193.1), (0, 0), (0, 1), (0, r215), (1, w64 (Int.tdiv (r193.2 l0 9) e149.2.2.2.2.1))]) rfl rfl (Nat.le_of_ble_eq_true rfl) z00 ?_
    refine z_iconst X dX10_putGuest_228 kc_1 ?_
    cases hf
    exact z_zret X hK (Or.inr rfl) dX10_putGuest_229
  have hx16_1 : ∀ e274 : Hp, (.inr e274 : (Int × Int × Int × Int × Int × Hp) ⊕ (Hp)) = q16 → ZV g x 13 e274 274 [] [] := by
    intro e274 hq
    subst hq
    dsimp only at hf
    refine z_iconst X dX10_putGuest_274 kc_0 ?_
    cases hf
    exact z_zret X hK (Or.inl rfl) dX10_putGuest_275
  exact z_weak [2, 3, 4, 1, 0] rfl (z_loop (Z := (fun q : Int × Hp => ZV g x 13 q.2 16 [(0, (2, l0)), (1, (0, l1)), (2, (0, l2)), (3, (0, h (h (h l0 1) 15) l1)), (4, (0, q.1))] [])) (E := fun q => q = q16) (fun q y hb hk => z_WF_putGuest_L16 X hd l0 l1 l2 (h (h (h l0 1) 15) l1) (fun q => q = q16) hx16_0 hx16_1 q.1 q.2 y hb hk) LN (h l0 10, h) q16 hq16 rfl)
set_option maxHeartbeats 4000000 in
set_option maxRecDepth 100000 in
theorem z_WF_goAbove_j145 {g : GP} {x : CX} {d : Nat} (X : zX g x RX10 cX10_goAbove 4 (d + 1)) (hd : 2 ≤ d) (l0 l1 l2 l3 : Int) (h : Hp) (y : (Int × Hp) ⊕ ((Hp) ⊕ (Hp))) (hf : WF_goAbove_j145 l0 l1 l2 l3 h = some y) (E : (Hp) ⊕ (Hp) → Prop) (hx0 : ∀ e : Hp, E (.inl e) → ZV g x 4 e 144 [] []) (hx1 : ∀ e : Hp, E (.inr e) → ZV g x 4 e 151 [] []) (hk : z_sum (fun q : Int × Hp => ZV g x 4 q.2 115 [(0, (2, l0)), (1, (0, l1)), (2, (0, l2)), (3, (0, q.1))] []) E y) : ZV g x 4 h 145 [(0, (2, l0)), (1, (0, l1)), (2, (0, l2)), (3, (0, l3))] [] := by
  unfold WF_goAbove_j145 at hf
  refine z_iinc X dX10_goAbove_145 3 rfl (by decide) (ls' := [(3, (0, w32 (l3 + 1))), (0, (2, l0)), (1, (0, l1)), (2, (0, l2))]) rfl ?_
  refine z_goto X dX10_goAbove_148 rfl ?_
  cases hf
  exact z_weak [1, 2, 3, 0] rfl hk
set_option maxHeartbeats 4000000 in
set_option maxRecDepth 100000 in
theorem z_WF_goAbove_L115 {g : GP} {x : CX} {d : Nat} (X : zX g x RX10 cX10_goAbove 4 (d + 1)) (hd : 2 ≤ d) (l0 l1 l2 : Int)  (E : (Hp) ⊕ (Hp) → Prop) (hx0 : ∀ e : Hp, E (.inl e) → ZV g x 4 e 144 [] []) (hx1 : ∀ e : Hp, E (.inr e) → ZV g x 4 e 151 [] []) (l3 : Int) (h : Hp) (y : (Int × Hp) ⊕ ((Hp) ⊕ (Hp))) (hf : WF_goAbove_L115 l0 l1 l2 l3 h = some y) (hk : z_sum (fun q : Int × Hp => ZV g x 4 q.2 115 [(0, (2, l0)), (1, (0, l1)), (2, (0, l2)), (3, (0, q.1))] []) E y) : ZV g x 4 h 115 [(0, (2, l0)), (1, (0, l1)), (2, (0, l2)), (3, (0, l3))] [] := by
  unfold WF_goAbove_L115 at hf
  refine z_iload_n X dX10_goAbove_115 3 rfl ?_
  refine z_aload_n X dX10_goAbove_116 0 rfl ?_
  obtain ⟨g8, hf⟩ := gif hf
  refine y_get X fl_RX10_32 dX10_goAbove_117 g8 ?_
  obtain ⟨g9, hf⟩ := gif hf
  refine y_get X fl_RX10_106 dX10_goAbove_120 g9 ?_
  refine z_icmp_ge X dX10_goAbove_123 rfl (fun hc123 => ?_) (fun hc123 => ?_)
  · have hf := ift hc123 hf
    cases hf
    exact z_weak [] rfl (hx1 _ hk)
  · have hf := iff' hc123 hf
    refine z_iload_n X dX10_goAbove_126 2 rfl ?_
    refine z_iload_n X dX10_goAbove_127 3 rfl ?_
    refine z_ishr X dX10_goAbove_128 ?_
    refine z_iconst X dX10_goAbove_129 kc_1 ?_
    refine z_iand X dX10_goAbove_130 ?_
    refine z_iconst X dX10_goAbove_131 kc_1 ?_
    refine z_icmp_ne X dX10_goAbove_132 rfl (fun hc132 => ?_) (fun hc132 => ?_)
    · have hf := iff' hc132 hf
      exact (z_WF_goAbove_j145 X hd l0 l1 l2 l3 h _ hf E hx0 hx1 hk)
    · have hf := ift hc132 hf
      refine z_aload_n X dX10_goAbove_135 0 rfl ?_
      refine z_iload_n X dX10_goAbove_136 1 rfl ?_
      refine z_iload_n X dX10_goAbove_137 3 rfl ?_
      obtain ⟨r138, hr138, hf⟩ := obE hf
      refine y_V1 X cv_RX10_130 dX10_goAbove_138 g8 (c_WF_putGuest d (Nat.le_trans (by decide) hd) l0 l1 l3 h r138 hr138) (as := [(0, l1), (0, l3)]) rfl rfl (Nat.le_of_ble_eq_true rfl) z00 ?_
      refine z_if_eq X dX10_goAbove_141 rfl (fun hc141 => ?_) (fun hc141 => ?_)
      · have hf := ift hc141 hf
        exact (z_WF_goAbove_j145 X hd l0 l1 l2 l3 r138.2 _ hf E hx0 hx1 hk)
      · have hf := iff' hc141 hf
        cases hf
        exact z_weak [] rfl (hx0 _ hk)
set_option maxHeartbeats 4000000 in
set_option maxRecDepth 100000 in
theorem z_WF_goAbove_j95 {g : GP} {x : CX} {d : Nat} (X : zX g x RX10 cX10_goAbove 4 (d + 1)) (hd : 2 ≤ d) (l0 l1 : Int) (h : Hp) (y : Hp) (hf : WF_goAbove_j95 l0 l1 h = some y) (hK : zE g x none 0 0 157 y none) : ZV g x 4 h 95 [(0, (2, l0)), (1, (0, l1))] [] := by
  unfold WF_goAbove_j95 at hf
  refine z_aload_n X dX10_goAbove_95 0 rfl ?_
  obtain ⟨g4, hf⟩ := gif hf
  refine y_get X fl_RX10_32 dX10_goAbove_96 g4 ?_
  obtain ⟨g5, hf⟩ := gif hf
  refine y_get X fl_RX10_127 dX10_goAbove_99 g5 ?_
  refine z_aload_n X dX10_goAbove_102 0 rfl ?_
  refine y_get X fl_RX10_32 dX10_goAbove_103 g4 ?_
  refine y_get X fl_RX10_90 dX10_goAbove_106 g5 ?_
  refine z_iload_n X dX10_goAbove_109 1 rfl ?_
  obtain ⟨g6, hf⟩ := gif hf
  refine y_iald X dX10_goAbove_110 g6 ?_
  obtain ⟨g7, hf⟩ := gif hf
  refine y_iald X dX10_goAbove_111 g7 ?_
  refine z_istore_n X dX10_goAbove_112 (by decide) (ls' := [(2, (0, h (h (h l0 1) 18) (h (h (h l0 1) 9) l1))), (0, (2, l0)), (1, (0, l1))]) rfl ?_
  refine z_iconst X dX10_goAbove_113 kc_0 ?_
  refine z_istore_n X dX10_goAbove_114 (by decide) (ls' := [(3, (0, 0)), (2, (0, h (h (h l0 1) 18) (h (h (h l0 1) 9) l1))), (0, (2, l0)), (1, (0, l1))]) rfl ?_
  obtain ⟨q115, hq115, hf⟩ := obE hf
  have hx115_0 : ∀ e144 : Hp, (.inl e144 : (Hp) ⊕ (Hp)) = q115 → ZV g x 4 e144 144 [] [] := by
    intro e144 hq
    subst hq
    dsimp only at hf
    cases hf
    exact z_vret X hK dX10_goAbove_144
  have hx115_1 : ∀ e151 : Hp, (.inr e151 : (Hp) ⊕ (Hp)) = q115 → ZV g x 4 e151 151 [] [] := by
    intro e151 hq
    subst hq
    dsimp only at hf
    cases hf
    exact z_vret X hK dX10_goAbove_151
  exact z_weak [2, 3, 1, 0] rfl (z_loop (Z := (fun q : Int × Hp => ZV g x 4 q.2 115 [(0, (2, l0)), (1, (0, l1)), (2, (0, h (h (h l0 1) 18) (h (h (h l0 1) 9) l1))), (3, (0, q.1))] [])) (E := fun q => q = q115) (fun q y hb hk => z_WF_goAbove_L115 X hd l0 l1 (h (h (h l0 1) 18) (h (h (h l0 1) 9) l1)) (fun q => q = q115) hx115_0 hx115_1 q.1 q.2 y hb hk) LN (0, h) q115 hq115 rfl)
