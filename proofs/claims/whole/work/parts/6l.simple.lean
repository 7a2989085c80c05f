/-! calls that look at trees and nodes -/
def inN (G : Gm) (t x : Int) : Prop := 0 ≤ t ∧ t < nT G ∧ 0 ≤ x ∧ x < ft G (t + 1) - ft G t
def ownV (b x : Int) : Int := if x = -1 then -1 else w32 (x - b)
section
variable {h h' : Hp} {P ob n : Int} {G : Gm} {row : Int → Int}
theorem inN_in (W : WF G) {t x : Int} (hi : inN G t x) : 0 ≤ ft G t + x ∧ ft G t + x < nN G ∧ w32 (ft G t + x) = ft G t + x ∧ tr G (ft G t + x) = t ∧ 0 ≤ ft G t ∧ ft G t < nN G := by
  obtain ⟨t0, t1, x0, x1⟩ := hi
  have a := ft_in W t0 (by omega)
  have b := ft_in W (t := t + 1) (by omega) (by omega)
  have nn := wf_nn W
  exact ⟨by omega, by omega, by unfold w32; omega, wf_tru W t0 t1 (by omega) (by omega), a.1, by omega⟩
theorem Gr_sizeOf_ok (B : BX h P G ob n row) {t : Int} (t0 : 0 ≤ t) (t1 : t < nT G) : Gr_sizeOf P t h = some (ft G (t + 1) - ft G t) := by
  have W := bx_W B
  have R := bx_R B
  have nt := wf_nt W
  have nn := wf_nn W
  obtain ⟨g0, g1, -⟩ := GrO_k R.1
  have e6 : h P 6 = P + 1 := R.2.1.1
  have a := ft_in W t0 (by omega)
  have b := ft_in W (t := t + 1) (by omega) (by omega)
  unfold Gr_sizeOf
  rw [if_pos g0, e6, show w32 (t + 1) = t + 1 by unfold w32; omega, if_pos ⟨g1.1, by omega, by rw [g1.2]; omega⟩, if_pos ⟨g1.1, by omega, by rw [g1.2]; omega⟩, R.2.2.2.2.1 t t0 (by omega), R.2.2.2.2.1 (t + 1) (by omega) (by omega)]
  congr 1
  unfold w32
  omega
theorem Gr_hasNode_y (B : BX h P G ob n row) {t x : Int} (hi : inN G t x) : Gr_hasNode P t x h = some 1 := by
  unfold Gr_hasNode Gr_hasNode_j25
  obtain ⟨t0, t1, x0, x1⟩ := hi
  have tt : 0 ≤ t ∧ t < nT G := ⟨t0, t1⟩
  rw [if_pos (bx_kP B), Gr_hasTree_ok B, ob_some, if_pos tt, if_neg (by decide), if_neg (by omega), Gr_sizeOf_ok B t0 t1, ob_some, if_neg (by omega)]
theorem Gr_hasNode_n (B : BX h P G ob n row) {t x : Int} (hi : ¬ inN G t x) : Gr_hasNode P t x h = some 0 := by
  unfold Gr_hasNode Gr_hasNode_j25
  rw [if_pos (bx_kP B), Gr_hasTree_ok B, ob_some]
  by_cases ht : 0 ≤ t ∧ t < nT G
  · rw [if_pos ht, if_neg (by decide)]
    by_cases hx : x < 0
    · rw [if_pos hx]
    · rw [if_neg hx, Gr_sizeOf_ok B ht.1 ht.2, ob_some, if_pos]
      apply Classical.byContradiction
      intro hq
      exact hi ⟨ht.1, ht.2, by omega, by omega⟩
  · rw [if_neg ht, if_pos rfl]
theorem M_isTree_ok (B : BM h G ob n row) (t : Int) : M_isTree 121 t h = some (if 0 ≤ t ∧ t < nT G then 1 else 0) := by
  have nt := wf_nt (bm_W B)
  unfold M_isTree M_in M_in_j17
  rw [if_pos kK_121, (bm_X B).1, show w32 (nT G - 1) = nT G - 1 by unfold w32; omega]
  by_cases h1 : t < 0
  · rw [if_pos h1, ob_some, if_pos (Or.inl rfl), if_neg (by omega)]
  rw [if_neg h1]
  by_cases h2 : nT G - 1 < t
  · rw [if_pos h2, ob_some, if_pos (Or.inl rfl), if_neg (by omega)]
  rw [if_neg h2, ob_some, if_pos (Or.inr rfl), if_pos ⟨by omega, by omega⟩]
theorem M_nodesOf_ok (B : BM h G ob n row) {t : Int} (t0 : 0 ≤ t) (t1 : t < nT G) : M_nodesOf 121 t h = some (ft G (t + 1) - ft G t) := by
  have W := bm_W B
  have X := bm_X B
  have nt := wf_nt W
  have nn := wf_nn W
  have a := ft_in W t0 (by omega)
  have b := ft_in W (t := t + 1) (by omega) (by omega)
  have e4 : h 121 4 = 122 := ms_at (bm_S B) (by decide)
  unfold M_nodesOf
  rw [if_pos kK_121, e4, show w32 (t + 1) = t + 1 by unfold w32; omega, if_pos ⟨kK_122, by omega, by rw [kL_122]; omega⟩, if_pos ⟨kK_122, by omega, by rw [kL_122]; omega⟩, X.2.2.2.1 t t0 (by omega), X.2.2.2.1 (t + 1) (by omega) (by omega)]
  congr 1
  unfold w32
  omega
theorem M_isNode_y (B : BM h G ob n row) {t x : Int} (hi : inN G t x) : M_isNode 121 t x h = some 1 := by
  obtain ⟨t0, t1, x0, x1⟩ := hi
  have W := bm_W B
  have st := wf_step W t0 t1
  have tt : 0 ≤ t ∧ t < nT G := ⟨t0, t1⟩
  unfold M_isNode M_isNode_j29 M_in
  rw [if_pos kK_121, M_isTree_ok B, ob_some, if_pos tt, if_neg (by decide), M_nodesOf_ok B t0 t1, ob_some, show w32 (ft G (t + 1) - ft G t - 1) = ft G (t + 1) - ft G t - 1 by unfold w32; omega, if_neg (by omega), if_neg (by omega), ob_some, if_neg (by decide)]
theorem M_isNode_n (B : BM h G ob n row) {t x : Int} (hi : ¬ inN G t x) : M_isNode 121 t x h = some 0 := by
  have W := bm_W B
  unfold M_isNode M_isNode_j29 M_in M_in_j17
  rw [if_pos kK_121, M_isTree_ok B, ob_some]
  by_cases ht : 0 ≤ t ∧ t < nT G
  · have st := wf_step W ht.1 ht.2
    rw [if_pos ht, if_neg (by decide), M_nodesOf_ok B ht.1 ht.2, ob_some, show w32 (ft G (t + 1) - ft G t - 1) = ft G (t + 1) - ft G t - 1 by unfold w32; omega]
    by_cases hx : x < 0
    · rw [if_pos hx, ob_some, if_pos rfl]
    · rw [if_neg hx, if_pos (show ft G (t + 1) - ft G t - 1 < x by
        apply Classical.byContradiction
        intro hq
        exact hi ⟨ht.1, ht.2, by omega, by omega⟩), ob_some, if_pos rfl]
  · rw [if_neg ht, if_pos rfl]
/-! node -/
noncomputable def nodeV (G : Gm) (t x w : Int) : Int := by
  classical exact if inN G t x then (if w = 0 then kd G (ft G t + x) else if w = 1 then lb G (ft G t + x) else if w = 2 then mk G (ft G t + x) else if w = 3 then ownV (ft G t) (c1 G (ft G t + x)) else if w = 4 then ownV (ft G t) (c2 G (ft G t + x)) else if w = 5 then ownV (ft G t) (up G (ft G t + x)) else if w = 6 then sp G (ft G t + x) else -2) else -2
theorem X_node_ok (B : BX h P G ob n row) (t x w : Int) : X_node 0 t x w h = some (nodeV G t x w) := by
  have W := bx_W B
  have R := bx_R B
  have nt := wf_nt W
  have nn := wf_nn W
  obtain ⟨g0, g1, g2, g3, g4, g5, g6, g7, g8, g9, g10, g11, g12, g13⟩ := GrO_k R.1
  obtain ⟨s6, s7, s8, s9, s10, s11, s12, s13, s14, s15, s16, s17, s18⟩ := R.2.1
  unfold X_node nodeV
  rw [if_pos (show kK 0 = 10 by decide), bx_15 B, if_pos (bx_kP B)]
  by_cases hi : inN G t x
  · obtain ⟨a0, a1, aw, at_, b0, b1⟩ := inN_in W hi
    obtain ⟨r1, r2, r3, r4, r5, r6, r7, r8, r9⟩ := R.2.2.2.2.2.1 _ a0 a1
    have hft : h (P + 1) t = ft G t := R.2.2.2.2.1 t hi.1 (by have := hi.2.1; omega)
    have q40 : ∀ c, kL c = 40 → ft G t + x < kL c := fun c hc => by rw [hc]; omega
    have y1 : kK (P + 1) = 21 ∧ 0 ≤ t ∧ t < kL (P + 1) := ⟨g1.1, hi.1, by rw [g1.2]; have := hi.2.1; omega⟩
    have y3 : kK (P + 3) = 21 ∧ 0 ≤ ft G t + x ∧ ft G t + x < kL (P + 3) := ⟨g3.1, a0, q40 _ g3.2⟩
    have y4 : kK (P + 4) = 21 ∧ 0 ≤ ft G t + x ∧ ft G t + x < kL (P + 4) := ⟨g4.1, a0, q40 _ g4.2⟩
    have y5 : kK (P + 5) = 21 ∧ 0 ≤ ft G t + x ∧ ft G t + x < kL (P + 5) := ⟨g5.1, a0, q40 _ g5.2⟩
    have y6 : kK (P + 6) = 21 ∧ 0 ≤ ft G t + x ∧ ft G t + x < kL (P + 6) := ⟨g6.1, a0, q40 _ g6.2⟩
    have y7 : kK (P + 7) = 21 ∧ 0 ≤ ft G t + x ∧ ft G t + x < kL (P + 7) := ⟨g7.1, a0, q40 _ g7.2⟩
    have y8 : kK (P + 8) = 21 ∧ 0 ≤ ft G t + x ∧ ft G t + x < kL (P + 8) := ⟨g8.1, a0, q40 _ g8.2⟩
    have y10 : kK (P + 10) = 23 ∧ 0 ≤ ft G t + x ∧ ft G t + x < kL (P + 10) := ⟨g10.1, a0, q40 _ g10.2⟩
    rw [Gr_hasNode_y B hi, ob_some, if_neg (by decide), if_pos hi, s6, if_pos y1, hft, aw, s8, s9, s10, s11, s12, s13, s15, r2, r3, r4, r5, r6, r7, r9, if_pos y3, if_pos y4, if_pos y5, if_pos y6, if_pos y7, if_pos y8, if_pos y10]
    clear g0 g1 g2 g3 g4 g5 g6 g7 g8 g9 g10 g11 g12 g13 y1 y3 y4 y5 y6 y7 y8 y10
    have s01 := (wf_sp W a0 a1).1
    unfold X_within
    simp only [ob_some]
    unfold ownV
    repeat' split
    all_goals first | rfl | omega | (congr 1; omega)
  · rw [Gr_hasNode_n B hi, ob_some, if_pos rfl, if_neg hi]
theorem M_node_ok (B : BM h G ob n row) (t x w : Int) : M_node 121 t x w h = some (nodeV G t x w) := by
  have W := bm_W B
  have X := bm_X B
  have S := bm_S B
  have nt := wf_nt W
  have nn := wf_nn W
  have s4 : h 121 4 = 122 := ms_at S (by decide)
  have s5 : h 121 5 = 123 := ms_at S (by decide)
  have s6 : h 121 6 = 124 := ms_at S (by decide)
  have s7 : h 121 7 = 125 := ms_at S (by decide)
  have s8 : h 121 8 = 126 := ms_at S (by decide)
  have s9 : h 121 9 = 127 := ms_at S (by decide)
  have s10 : h 121 10 = 128 := ms_at S (by decide)
  have s14 : h 121 14 = 130 := ms_at S (by decide)
  unfold M_node nodeV
  rw [if_pos kK_121]
  by_cases hi : inN G t x
  · obtain ⟨a0, a1, aw, at_, b0, b1⟩ := inN_in W hi
    obtain ⟨r1, r2, r3, r4, r5, r6, r7, r8, r9⟩ := X.2.2.2.2.1 _ a0 a1
    have hft : h 122 t = ft G t := X.2.2.2.1 t hi.1 (by have := hi.2.1; omega)
    have t1 := hi.2.1
    have y1 : kK 122 = 21 ∧ 0 ≤ t ∧ t < kL 122 := ⟨kK_122, hi.1, by rw [kL_122]; omega⟩
    have y123 : kK 123 = 21 ∧ 0 ≤ ft G t + x ∧ ft G t + x < kL 123 := ⟨kK_123, a0, by rw [kL_123]; omega⟩
    have y124 : kK 124 = 21 ∧ 0 ≤ ft G t + x ∧ ft G t + x < kL 124 := ⟨kK_124, a0, by rw [kL_124]; omega⟩
    have y125 : kK 125 = 21 ∧ 0 ≤ ft G t + x ∧ ft G t + x < kL 125 := ⟨kK_125, a0, by rw [kL_125]; omega⟩
    have y126 : kK 126 = 21 ∧ 0 ≤ ft G t + x ∧ ft G t + x < kL 126 := ⟨kK_126, a0, by rw [kL_126]; omega⟩
    have y127 : kK 127 = 21 ∧ 0 ≤ ft G t + x ∧ ft G t + x < kL 127 := ⟨kK_127, a0, by rw [kL_127]; omega⟩
    have y128 : kK 128 = 21 ∧ 0 ≤ ft G t + x ∧ ft G t + x < kL 128 := ⟨kK_128, a0, by rw [kL_128]; omega⟩
    have y130 : kK 130 = 23 ∧ 0 ≤ ft G t + x ∧ ft G t + x < kL 130 := ⟨kK_130, a0, by rw [kL_130]; omega⟩
    rw [M_isNode_y B hi, ob_some, if_neg (by decide), if_pos hi, s4, if_pos y1, hft, aw, s5, s6, s7, s8, s9, s10, s14, r1, r2, r3, r4, r5, r6, r8, if_pos y123, if_pos y124, if_pos y125, if_pos y126, if_pos y127, if_pos y128, if_pos y130]
    have s01 := (wf_sp W a0 a1).1
    have own : ∀ y, M_own 121 t y h = some (ownV (ft G t) y) := by
      intro y
      unfold M_own ownV
      rw [if_pos kK_121, s4, if_pos y1, hft]
      by_cases hy : y = -1
      · rw [if_pos hy, if_pos hy]
      · rw [if_neg hy, if_neg hy]
    simp only [own, ob_some]
    repeat' split
    all_goals first | rfl | omega | (congr 1; omega)
  · rw [M_isNode_n B hi, ob_some, if_pos rfl, if_neg hi]
/-! over -/
noncomputable def overV (G : Gm) (ob n : Int) (row : Int → Int) (t x half i j p q : Int) : Int := by
  classical exact if inN G t x ∧ 0 ≤ half ∧ half ≤ 1 ∧ 0 ≤ i ∧ i ≤ j ∧ j ≤ n ∧ ((sp G (ft G t + x) = 1 ∧ i ≤ p ∧ p ≤ q ∧ q ≤ j) ∨ (sp G (ft G t + x) = 0 ∧ p = -1 ∧ q = -1)) then (if ouB ob t then 0 else shw (capN (wW G (ouB ob) row half (ft G t + x) i j p q))) else -2
theorem M_over_ok (B : BM h G ob n row) {d : Nat} (hd : 1951 ≤ d) (t x half i j p q : Int) : ∃ h', M_over d 121 t x half i j p q h = some (overV G ob n row t x half i j p q, h') ∧ Lk h h' := by
  have W := bm_W B
  have X := bm_X B
  have S := bm_S B
  have nt := wf_nt W
  have nn := wf_nn W
  have l3 := (bm_L B).2.2.1
  have s4 : h 121 4 = 122 := ms_at S (by decide)
  have s14 : h 121 14 = 130 := ms_at S (by decide)
  have no : M_over_j82 d 121 t x half i j p q 0 h = some (-2, h) := by
    unfold M_over_j82
    rw [if_pos rfl]
  unfold M_over overV M_over_j81 M_in M_in_j17
  rw [if_pos kK_121]
  by_cases hi : inN G t x
  · obtain ⟨a0, a1, aw, at_, b0, b1⟩ := inN_in W hi
    have r8 := (X.2.2.2.2.1 _ a0 a1).2.2.2.2.2.2.2.1
    have hft : h 122 t = ft G t := X.2.2.2.1 t hi.1 (by have := hi.2.1; omega)
    have t0 := hi.1
    have t1 := hi.2.1
    have s01 := (wf_sp W a0 a1).1
    rw [M_isNode_y B hi, ob_some, if_neg (by decide)]
    by_cases hh : 0 ≤ half ∧ half ≤ 1
    · rw [if_neg (show ¬ half < 0 by omega), if_neg (show ¬ 1 < half by omega), ob_some, if_neg (by decide), s4, s14, if_pos ⟨kK_122, hi.1, by rw [kL_122]; omega⟩, hft, aw, if_pos ⟨kK_130, a0, by rw [kL_130]; omega⟩, r8, M_isSpan_ok B, M_isGap_ok B, ob_some, ob_some]
      have fin : ∀ (hitm : itm G half (ft G t + x) i j p q) (hj : j ≤ n), ∃ h', M_over_j82 d 121 t x half i j p q 1 h = some ((if ouB ob t then 0 else shw (capN (wW G (ouB ob) row half (ft G t + x) i j p q))), h') ∧ Lk h h' := by
        intro hitm hj
        unfold M_over_j82
        rw [if_neg (by decide), if_pos kK_121, M_isOut_ok B t0 (by omega), ob_some]
        cases ho : ouB ob t
        · obtain ⟨g, y, F, K⟩ := M_look0 B
          have B1 := BM_lk B F
          have hft1 : g 122 t = ft G t := (bm_X B1).2.2.2.1 t t0 (by omega)
          obtain ⟨g2, y2, D2, K2⟩ := M_ask W K (d := d - 1) (by omega) hitm hj
          rw [if_neg (show ¬ false = true by decide), if_pos rfl, y, ob_some, ms_at (bm_S B1) (show ((4 : Int), (122 : Int)) ∈ msL by decide), if_pos ⟨kK_122, t0, by rw [kL_122]; omega⟩, hft1, aw, y2, ob_some]
          exact ⟨g2, rfl, F.tr (Lk.of144 D2)⟩
        · rw [if_pos rfl, if_neg (by decide)]
          exact ⟨h, rfl, Lk.rf⟩
      by_cases hs : sp G (ft G t + x) = 0
      · rw [if_pos hs]
        by_cases h0 : 0 ≤ i ∧ i ≤ j ∧ j ≤ n
        · rw [if_pos h0, if_neg (by decide)]
          by_cases hp : p = -1
          · rw [if_pos hp]
            by_cases hq : q = -1
            · rw [if_pos hq, if_pos (show inN G t x ∧ 0 ≤ half ∧ half ≤ 1 ∧ 0 ≤ i ∧ i ≤ j ∧ j ≤ n ∧ ((sp G (ft G t + x) = 1 ∧ i ≤ p ∧ p ≤ q ∧ q ≤ j) ∨ (sp G (ft G t + x) = 0 ∧ p = -1 ∧ q = -1)) from ⟨hi, hh.1, hh.2, h0.1, h0.2.1, h0.2.2, Or.inr ⟨hs, hp, hq⟩⟩)]
              exact fin ⟨by omega, a0, a1, h0.1, h0.2.1, by omega, Or.inr ⟨hs, hp, hq⟩⟩ h0.2.2
            · rw [if_neg hq, no, if_neg (by rintro ⟨-, -, -, -, -, -, z | z⟩ <;> omega)]
              exact ⟨h, rfl, Lk.rf⟩
          · rw [if_neg hp, no, if_neg (by rintro ⟨-, -, -, -, -, -, z | z⟩ <;> omega)]
            exact ⟨h, rfl, Lk.rf⟩
        · rw [if_neg h0, if_pos rfl, no, if_neg (by rintro ⟨-, -, -, z1, z2, z3, -⟩; exact h0 ⟨z1, z2, z3⟩)]
          exact ⟨h, rfl, Lk.rf⟩
      · have hs1 : sp G (ft G t + x) = 1 := by omega
        rw [if_neg hs]
        by_cases h0 : 0 ≤ i ∧ i ≤ p ∧ p ≤ q ∧ q ≤ j ∧ j ≤ n
        · rw [if_pos h0, if_pos (show inN G t x ∧ 0 ≤ half ∧ half ≤ 1 ∧ 0 ≤ i ∧ i ≤ j ∧ j ≤ n ∧ ((sp G (ft G t + x) = 1 ∧ i ≤ p ∧ p ≤ q ∧ q ≤ j) ∨ (sp G (ft G t + x) = 0 ∧ p = -1 ∧ q = -1)) from ⟨hi, hh.1, hh.2, h0.1, by omega, h0.2.2.2.2, Or.inl ⟨hs1, h0.2.1, h0.2.2.1, h0.2.2.2.1⟩⟩)]
          exact fin ⟨by omega, a0, a1, h0.1, by omega, by omega, Or.inl ⟨hs1, h0.2.1, h0.2.2.1, h0.2.2.2.1⟩⟩ h0.2.2.2.2
        · rw [if_neg h0, no, if_neg (fun z => z.2.2.2.2.2.2.elim (fun y => h0 ⟨z.2.2.2.1, y.2.1, y.2.2.1, y.2.2.2, z.2.2.2.2.2.1⟩) (fun y => hs y.1))]
          exact ⟨h, rfl, Lk.rf⟩
    · by_cases h1 : half < 0
      · rw [if_pos h1, ob_some, if_pos rfl, if_neg (by rintro ⟨-, z1, z2, -⟩; omega)]
        exact ⟨h, rfl, Lk.rf⟩
      · rw [if_neg h1, if_pos (show 1 < half by omega), ob_some, if_pos rfl, if_neg (by rintro ⟨-, z1, z2, -⟩; omega)]
        exact ⟨h, rfl, Lk.rf⟩
  · rw [M_isNode_n B hi, ob_some, if_pos rfl, if_neg (fun z => hi z.1)]
    exact ⟨h, rfl, Lk.rf⟩
theorem X_over_ok (B : BX h P G ob n row) (K : KC h P G ob n row) (t x half i j p q : Int) : ∃ h', X_over 0 t x half i j p q h = some (overV G ob n row t x half i j p q, h') ∧ CnC h h' P G ob n row := by
  have W := bx_W B
  have R := bx_R B
  have nt := wf_nt W
  have nn := wf_nn W
  have n8 := (bx_n B).2.2
  obtain ⟨g0, g1, g2, g3, g4, g5, g6, g7, g8, g9, g10, g11, g12, g13⟩ := GrO_k R.1
  have s6 : h P 6 = P + 1 := R.2.1.1
  have s15 : h P 15 = P + 10 := R.2.1.2.2.2.2.2.2.2.2.2.1
  unfold X_over overV
  rw [if_pos (show kK 0 = 10 by decide), bx_15 B, if_pos (bx_kP B)]
  by_cases hi : inN G t x
  · obtain ⟨a0, a1, aw, at_, b0, b1⟩ := inN_in W hi
    have r9 := (R.2.2.2.2.2.1 _ a0 a1).2.2.2.2.2.2.2.2
    have hft : h (P + 1) t = ft G t := R.2.2.2.2.1 t hi.1 (by have := hi.2.1; omega)
    have t0 := hi.1
    have t1 := hi.2.1
    have s01 := (wf_sp W a0 a1).1
    rw [Gr_hasNode_y B hi, ob_some, if_neg (by decide)]
    by_cases h1 : half < 0
    · rw [if_pos h1, if_neg (by rintro ⟨-, z1, z2, -⟩; omega)]
      exact ⟨h, rfl, Or.inl rfl⟩
    rw [if_neg h1]
    by_cases h2 : half ≤ 1
    · rw [if_pos h2, s6, s15, if_pos ⟨g1.1, t0, by rw [g1.2]; omega⟩, hft, aw, if_pos ⟨g10.1, a0, by rw [g10.2]; omega⟩, r9, X_isSpan_ok B, X_isGap_ok B, ob_some, ob_some]
      have fin : ∀ (hitm : itm G half (ft G t + x) i j p q) (hj : j ≤ n), ∃ h', X_over_j100 0 half i j p q (ft G t + x) (sp G (ft G t + x)) h = some ((if ouB ob t then 0 else shw (capN (wW G (ouB ob) row half (ft G t + x) i j p q))), h') ∧ CnC h h' P G ob n row := by
        intro hitm hj
        obtain ⟨g, e, F, C, B1⟩ := know B K
        unfold X_over_j100 X_over_j127 X_over_j139
        rw [if_pos (show kK 0 = 10 by decide), e, ob_some, sx_at (bx_sx B1) (show (0, 8, 21) ∈ shX by decide), if_pos (by decide)]
        have v := val_item (Ev_cnt B1 C) C.2.2.2.2 hitm hj
        have ec : (if sp G (ft G t + x) = 0 then j else p) = cc p j ∧ (if sp G (ft G t + x) = 0 then j else q) = cc q j := by
          have i0 := hitm.2.2.2.1
          rcases hitm.2.2.2.2.2.2 with z | ⟨z1, rfl, rfl⟩
          · rw [if_neg (by omega), if_neg (by omega), cc_yes _ (by omega), cc_yes _ (by omega)]; exact ⟨rfl, rfl⟩
          · rw [if_pos z1, cc_no]; exact ⟨rfl, rfl⟩
        have ty : tY G (ouB ob) (aFix G (ouB ob) (agC row)) dT half (ft G t + x) i j p q = if ouB ob t then 0 else capN (wW G (ouB ob) row half (ft G t + x) i j p q) := by
          unfold tY
          rw [at_]
          cases ho : ouB ob t
          · rw [if_pos (show false = false ∧ dT half (ft G t + x) i j p q = true from ⟨rfl, rfl⟩), count_hom W (aFix_AEq W (agC_law row) n) hitm hj]
            rfl
          · rw [if_neg (fun z => Bool.noConfusion z.1)]
            rfl
        rw [ec.1, ec.2, v, ob_some, ty]
        refine ⟨g, ?_, Or.inr ⟨F, C⟩⟩
        unfold X_shown
        rw [ob_some]
        cases ouB ob t
        · rfl
        · rfl
      by_cases hs : sp G (ft G t + x) = 0
      · rw [if_pos hs]
        by_cases h0 : 0 ≤ i ∧ i ≤ j ∧ j ≤ n
        · rw [if_pos h0, if_neg (by decide)]
          by_cases hp : p = -1
          · rw [if_pos hp]
            by_cases hq : q = -1
            · rw [if_pos hq, if_pos ⟨hi, by omega, h2, h0.1, h0.2.1, h0.2.2, Or.inr ⟨hs, hp, hq⟩⟩]
              exact fin ⟨by omega, a0, a1, h0.1, h0.2.1, by omega, Or.inr ⟨hs, hp, hq⟩⟩ h0.2.2
            · rw [if_neg hq, if_neg (by rintro ⟨-, -, -, -, -, -, z | z⟩ <;> omega)]
              exact ⟨h, rfl, Or.inl rfl⟩
          · rw [if_neg hp, if_neg (by rintro ⟨-, -, -, -, -, -, z | z⟩ <;> omega)]
            exact ⟨h, rfl, Or.inl rfl⟩
        · rw [if_neg h0, if_pos rfl, if_neg (by rintro ⟨-, -, -, z1, z2, z3, -⟩; exact h0 ⟨z1, z2, z3⟩)]
          exact ⟨h, rfl, Or.inl rfl⟩
      · have hs1 : sp G (ft G t + x) = 1 := by omega
        rw [if_neg hs]
        by_cases h0 : 0 ≤ i ∧ i ≤ p ∧ p ≤ q ∧ q ≤ j ∧ j ≤ n
        · rw [if_pos h0, if_neg (by decide), if_pos ⟨hi, by omega, h2, h0.1, by omega, h0.2.2.2.2, Or.inl ⟨hs1, h0.2.1, h0.2.2.1, h0.2.2.2.1⟩⟩]
          exact fin ⟨by omega, a0, a1, h0.1, by omega, by omega, Or.inl ⟨hs1, h0.2.1, h0.2.2.1, h0.2.2.2.1⟩⟩ h0.2.2.2.2
        · rw [if_neg h0, if_pos rfl, if_neg (fun z => z.2.2.2.2.2.2.elim (fun y => h0 ⟨z.2.2.2.1, y.2.1, y.2.2.1, y.2.2.2, z.2.2.2.2.2.1⟩) (fun y => hs y.1))]
          exact ⟨h, rfl, Or.inl rfl⟩
    · rw [if_neg h2, if_neg (by rintro ⟨-, z1, z2, -⟩; omega)]
      exact ⟨h, rfl, Or.inl rfl⟩
  · rw [Gr_hasNode_n B hi, ob_some, if_pos rfl, if_neg (fun z => hi z.1)]
    exact ⟨h, rfl, Or.inl rfl⟩
end
