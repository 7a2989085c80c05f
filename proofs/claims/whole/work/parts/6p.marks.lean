/-! marks -/
def gmk (G : Gm) (x m : Int) : Gm := fun a b => if a = 2 ∧ b = x then m else G a b
section
variable {h h' : Hp} {P ob n x m : Int} {G : Gm} {row : Int → Int}
theorem gmk_ne {a b : Int} (ha : a ≠ 2) : gmk G x m a b = G a b := by unfold gmk; rw [if_neg (fun z => ha z.1)]
theorem gmk_mk {b : Int} : gmk G x m 2 b = if b = x then m else G 2 b := by
  unfold gmk
  by_cases hb : b = x
  · rw [if_pos ⟨rfl, hb⟩, if_pos hb]
  · rw [if_neg (fun z => hb z.2), if_neg hb]
theorem gmk_same (hm : mk G x = m) : gmk G x m = G := by
  funext a b
  unfold gmk
  split
  · rename_i z
    rw [z.1, z.2]
    exact hm.symm
  · rfl
theorem gmk_turn (k : Int) : turn (gmk G x m) k = turn G k := by
  unfold turn
  simp only [nd, ft, tr, gmk_ne (show (6 : Int) ≠ 2 by decide), gmk_ne (show (8 : Int) ≠ 2 by decide), gmk_ne (show (9 : Int) ≠ 2 by decide)]
theorem gmk_in (I : GIn G) (x0 : 0 ≤ x) (x1 : x < nN G) (hk : kd G x = 0) (m0 : 0 ≤ m) (m1 : m ≤ 2) : GIn (gmk G x m) := by
  obtain ⟨W, U, E⟩ := I
  have e0 := fun b => gmk_ne (G := G) (x := x) (m := m) (b := b) (show (0 : Int) ≠ 2 by decide)
  have e1 := fun b => gmk_ne (G := G) (x := x) (m := m) (b := b) (show (1 : Int) ≠ 2 by decide)
  have e3 := fun b => gmk_ne (G := G) (x := x) (m := m) (b := b) (show (3 : Int) ≠ 2 by decide)
  have e4 := fun b => gmk_ne (G := G) (x := x) (m := m) (b := b) (show (4 : Int) ≠ 2 by decide)
  have e5 := fun b => gmk_ne (G := G) (x := x) (m := m) (b := b) (show (5 : Int) ≠ 2 by decide)
  have e6 := fun b => gmk_ne (G := G) (x := x) (m := m) (b := b) (show (6 : Int) ≠ 2 by decide)
  have e7 := fun b => gmk_ne (G := G) (x := x) (m := m) (b := b) (show (7 : Int) ≠ 2 by decide)
  have e8 := fun b => gmk_ne (G := G) (x := x) (m := m) (b := b) (show (8 : Int) ≠ 2 by decide)
  have e9 := fun b => gmk_ne (G := G) (x := x) (m := m) (b := b) (show (9 : Int) ≠ 2 by decide)
  have e10 := fun b => gmk_ne (G := G) (x := x) (m := m) (b := b) (show (10 : Int) ≠ 2 by decide)
  refine ⟨?_, ?_, ?_⟩
  · unfold WF at W ⊢
    simp only [kd, lb, c1, c2, nd, sp, tr, ft, nT, nN, mk, e0, e1, e3, e4, e6, e7, e8, e9, e10, gmk_mk]
    obtain ⟨w1, w2, w3, w4, w5, w6, w7, w8, w9, w10, w11, w12, w13, w14, w15⟩ := W
    refine ⟨w1, w2, w3, w4, w5, w6, w7, w8, ?_, w10, w11, w12, w13, w14, ?_⟩
    · intro k k0 k1 k2
      have := w9 k k0 k1 k2
      have hx : k ≠ x := fun z => k2 (by rw [z]; exact hk)
      rw [if_neg hx]
      exact this
    · intro k k0 k1
      by_cases hx : k = x
      · rw [if_pos hx]; exact ⟨m0, m1⟩
      · rw [if_neg hx]; exact w15 k k0 k1
  · unfold UpR at U ⊢
    simp only [up, ft, tr, nN, e5, e9, e8, e10]
    exact U
  · unfold EnR at E ⊢
    simp only [kd, c1, c2, ft, nT, nN, e0, e3, e4, e9, e10]
    exact E
theorem gmk_fsA (k : Int) : ∀ (c : Nat) (lo : Int), fsA (gmk G x m) k lo c = fsA G k lo c
  | 0, _ => rfl
  | c + 1, lo => by
    rw [fsA_s, fsA_s, gmk_fsA k c (lo + 1)]
    simp only [kd, gmk_ne (show (0 : Int) ≠ 2 by decide)]
theorem gmk_X (B : BX h P G ob n row) (x0 : 0 ≤ x) (x1 : x < nN G) (hk : kd G x = 0) (m0 : 0 ≤ m) (m1 : m ≤ 2) : BX (hput h (P + 5) x m) P (gmk G x m) ob n row := by
  obtain ⟨S, X, L⟩ := B
  obtain ⟨hP, x15, x16, gs, R, I, x4, o, hb, lb5⟩ := X
  have hp : 93 ≤ P ∧ P ≤ 107 := by omega
  have e : ∀ c s, c ≠ P + 5 → hput h (P + 5) x m c s = h c s := fun c s hc => hput_ne1 hc
  refine ⟨?_, ⟨hP, by rw [e 0 15 (by omega)]; exact x15, by rw [e 0 16 (by omega)]; exact x16, ?_, ?_, gmk_in I x0 x1 hk m0 m1, by rw [e P 4 (by omega)]; exact x4, o, ?_, ?_⟩, ?_⟩
  · intro q hq
    have : ∀ q ∈ shX, q.1 ≤ 85 := by decide
    rw [e _ _ (by have := this q hq; omega)]
    exact S q hq
  · unfold GShp at gs ⊢
    simp only [e (200 - P) _ (by omega)]
    exact gs
  · obtain ⟨r1, r2, r3, r4, r5, r6, r7, r8, r9, r10, r11⟩ := R
    unfold GShp at r2
    refine ⟨r1, ?_, ?_, ?_, ?_, ?_, ?_, ?_, ?_, ?_, ?_⟩
    · unfold GShp
      simp only [e P _ (show P ≠ P + 5 by omega)]
      exact r2
    · rw [e P _ (by omega)]; simp only [nT, gmk_ne (show (10 : Int) ≠ 2 by decide)]; exact r3
    · rw [e P _ (by omega)]; simp only [nN, gmk_ne (show (10 : Int) ≠ 2 by decide)]; exact r4
    · simp only [e (P + 1) _ (show P + 1 ≠ P + 5 by omega), nT, ft, gmk_ne (show (10 : Int) ≠ 2 by decide), gmk_ne (show (9 : Int) ≠ 2 by decide)]; exact r5
    · intro k k0 k1
      simp only [nN, gmk_ne (show (10 : Int) ≠ 2 by decide)] at k1
      obtain ⟨q1, q2, q3, q4, q5, q6, q7, q8, q9⟩ := r6 k k0 k1
      simp only [e (P + 2) _ (show P + 2 ≠ P + 5 by omega), e (P + 3) _ (show P + 3 ≠ P + 5 by omega), e (P + 4) _ (show P + 4 ≠ P + 5 by omega), e (P + 6) _ (show P + 6 ≠ P + 5 by omega), e (P + 7) _ (show P + 7 ≠ P + 5 by omega), e (P + 8) _ (show P + 8 ≠ P + 5 by omega), e (P + 9) _ (show P + 9 ≠ P + 5 by omega), e (P + 10) _ (show P + 10 ≠ P + 5 by omega), tr, kd, lb, mk, c1, c2, up, nd, sp, gmk_ne (show (8 : Int) ≠ 2 by decide), gmk_ne (show (0 : Int) ≠ 2 by decide), gmk_ne (show (1 : Int) ≠ 2 by decide), gmk_ne (show (3 : Int) ≠ 2 by decide), gmk_ne (show (4 : Int) ≠ 2 by decide), gmk_ne (show (5 : Int) ≠ 2 by decide), gmk_ne (show (6 : Int) ≠ 2 by decide), gmk_ne (show (7 : Int) ≠ 2 by decide), gmk_mk]
      refine ⟨q1, q2, q3, ?_, q5, q6, q7, q8, q9⟩
      by_cases hx : k = x
      · rw [hx, hput_eq, if_pos rfl]
      · rw [hput_ne2 hx, if_neg hx]; exact q4
    · simp only [e (P + 12) _ (show P + 12 ≠ P + 5 by omega), e (P + 13) _ (show P + 13 ≠ P + 5 by omega), nT, ft, sp, lb, gmk_ne (show (10 : Int) ≠ 2 by decide), gmk_ne (show (9 : Int) ≠ 2 by decide), gmk_ne (show (7 : Int) ≠ 2 by decide), gmk_ne (show (1 : Int) ≠ 2 by decide)]; exact r7
    · simp only [e (P + 12) _ (show P + 12 ≠ P + 5 by omega), e (P + 13) _ (show P + 13 ≠ P + 5 by omega)]; exact r8
    · simp only [e (P + 11) _ (show P + 11 ≠ P + 5 by omega), nN, gmk_ne (show (10 : Int) ≠ 2 by decide)]; exact r9
    · simp only [e (P + 11) _ (show P + 11 ≠ P + 5 by omega), nN, gmk_ne (show (10 : Int) ≠ 2 by decide)]; exact r10
    · simp only [e (P + 11) _ (show P + 11 ≠ P + 5 by omega), nN, gmk_ne (show (10 : Int) ≠ 2 by decide), gmk_turn]; exact r11
  · simp only [e P _ (show P ≠ P + 5 by omega), nT, ft, sp, gmk_ne (show (10 : Int) ≠ 2 by decide), gmk_ne (show (9 : Int) ≠ 2 by decide), gmk_ne (show (7 : Int) ≠ 2 by decide)]
    exact hb
  · simp only [e P _ (show P ≠ P + 5 by omega), nN, kd, lb, gmk_ne (show (10 : Int) ≠ 2 by decide), gmk_ne (show (0 : Int) ≠ 2 by decide), gmk_ne (show (1 : Int) ≠ 2 by decide)]
    exact lb5
  · unfold LetX at L ⊢
    simp only [e 5 _ (show (5 : Int) ≠ P + 5 by omega), e 6 _ (show (6 : Int) ≠ P + 5 by omega)]
    exact L
theorem gmk_M (B : BM h G ob n row) (x0 : 0 ≤ x) (x1 : x < nN G) (hk : kd G x = 0) (m0 : 0 ≤ m) (m1 : m ≤ 2) : BM (hput h 125 x m) (gmk G x m) ob n row := by
  obtain ⟨S, T, X, I, o, L⟩ := B
  have e : ∀ c s, c ≠ 125 → hput h 125 x m c s = h c s := fun c s hc => hput_ne1 hc
  refine ⟨fun q hq => by rw [e _ _ (by decide)]; exact S q hq, ?_, ?_, gmk_in I x0 x1 hk m0 m1, o, ?_⟩
  · unfold SpM spT at T ⊢
    simp only [e 139 _ (by decide), e 140 _ (by decide), e 141 _ (by decide), e 142 _ (by decide), e 143 _ (by decide)]
    exact T
  · obtain ⟨y1, y2, y3, y4, y5, y6⟩ := X
    refine ⟨?_, ?_, ?_, ?_, ?_, ?_⟩
    · rw [e 121 _ (by decide)]; simp only [nT, gmk_ne (show (10 : Int) ≠ 2 by decide)]; exact y1
    · rw [e 121 _ (by decide)]; simp only [nN, gmk_ne (show (10 : Int) ≠ 2 by decide)]; exact y2
    · rw [e 121 _ (by decide)]; exact y3
    · simp only [e 122 _ (by decide), nT, ft, gmk_ne (show (10 : Int) ≠ 2 by decide), gmk_ne (show (9 : Int) ≠ 2 by decide)]; exact y4
    · intro k k0 k1
      simp only [nN, gmk_ne (show (10 : Int) ≠ 2 by decide)] at k1
      obtain ⟨q1, q2, q3, q4, q5, q6, q7, q8, q9⟩ := y5 k k0 k1
      simp only [e 123 _ (by decide), e 124 _ (by decide), e 126 _ (by decide), e 127 _ (by decide), e 128 _ (by decide), e 129 _ (by decide), e 130 _ (by decide), e 131 _ (by decide), tr, kd, lb, mk, c1, c2, up, nd, sp, gmk_ne (show (8 : Int) ≠ 2 by decide), gmk_ne (show (0 : Int) ≠ 2 by decide), gmk_ne (show (1 : Int) ≠ 2 by decide), gmk_ne (show (3 : Int) ≠ 2 by decide), gmk_ne (show (4 : Int) ≠ 2 by decide), gmk_ne (show (5 : Int) ≠ 2 by decide), gmk_ne (show (6 : Int) ≠ 2 by decide), gmk_ne (show (7 : Int) ≠ 2 by decide), gmk_mk]
      refine ⟨q1, q2, ?_, q4, q5, q6, q7, q8, q9⟩
      by_cases hx : k = x
      · rw [hx, hput_eq, if_pos rfl]
      · rw [hput_ne2 hx, if_neg hx]; exact q3
    · intro t t0 t1
      simp only [nT, gmk_ne (show (10 : Int) ≠ 2 by decide)] at t1
      have := y6 t t0 t1
      unfold fstK plc at this ⊢
      simp only [e 132 _ (by decide), e 133 _ (by decide), e 134 _ (by decide), gmk_fsA]
      simp only [ft, sp, kd, gmk_ne (show (0 : Int) ≠ 2 by decide), gmk_ne (show (9 : Int) ≠ 2 by decide), gmk_ne (show (7 : Int) ≠ 2 by decide)]
      exact this
  · unfold LetM at L ⊢
    simp only [e 121 _ (by decide), e 137 _ (by decide)]
    exact L
theorem X_marks_ok (B : BX h P G ob n row) (t y m : Int) : ((inN G t y ∧ 0 ≤ m ∧ m ≤ 2 ∧ kd G (ft G t + y) = 0) ∧ X_marks 0 t y m h = some (mk G (ft G t + y), if mk G (ft G t + y) = m then hput h (P + 5) (ft G t + y) m else hput (hput h (P + 5) (ft G t + y) m) 0 17 0)) ∨ (¬ (inN G t y ∧ 0 ≤ m ∧ m ≤ 2 ∧ kd G (ft G t + y) = 0) ∧ X_marks 0 t y m h = some (-2, h)) := by
  have W := bx_W B
  have R := bx_R B
  have nt := wf_nt W
  have nn := wf_nn W
  obtain ⟨g0, g1, g2, g3, g4, g5, -⟩ := GrO_k R.1
  have s6 : h P 6 = P + 1 := R.2.1.1
  have s8 : h P 8 = P + 3 := R.2.1.2.2.1
  have s10 : h P 10 = P + 5 := R.2.1.2.2.2.2.1
  unfold X_marks
  rw [if_pos (show kK 0 = 10 by decide), bx_15 B, if_pos (bx_kP B)]
  by_cases hi : inN G t y
  · obtain ⟨a0, a1, aw, at_, b0, b1⟩ := inN_in W hi
    obtain ⟨r1, r2, r3, r4, -⟩ := R.2.2.2.2.2.1 _ a0 a1
    have t0 := hi.1
    have t1 := hi.2.1
    have hft : h (P + 1) t = ft G t := R.2.2.2.2.1 t t0 (by omega)
    have y1 : kK (P + 1) = 21 ∧ 0 ≤ t ∧ t < kL (P + 1) := ⟨g1.1, t0, by rw [g1.2]; omega⟩
    have y3 : kK (P + 3) = 21 ∧ 0 ≤ ft G t + y ∧ ft G t + y < kL (P + 3) := ⟨g3.1, a0, by rw [g3.2]; omega⟩
    have y5 : kK (P + 5) = 21 ∧ 0 ≤ ft G t + y ∧ ft G t + y < kL (P + 5) := ⟨g5.1, a0, by rw [g5.2]; omega⟩
    rw [Gr_hasNode_y B hi, ob_some, if_neg (by decide)]
    by_cases h0 : m < 0
    · right
      rw [if_pos h0]
      exact ⟨fun z => by have := z.2.1; omega, rfl⟩
    rw [if_neg h0]
    by_cases h1 : m ≤ 2
    · rw [if_pos h1, s6, if_pos y1, s8, hft, aw, if_pos y3, r2]
      by_cases hk : kd G (ft G t + y) = 0
      · left
        rw [if_pos hk, s10, if_pos y5, r4]
        refine ⟨⟨hi, by omega, h1, hk⟩, ?_⟩
        by_cases hm : mk G (ft G t + y) = m
        · rw [if_pos hm, if_pos hm]
        · rw [if_neg hm, if_neg hm]
      · right
        rw [if_neg hk]
        exact ⟨fun z => hk z.2.2.2, rfl⟩
    · right
      rw [if_neg h1]
      exact ⟨fun z => h1 z.2.2.1, rfl⟩
  · right
    rw [Gr_hasNode_n B hi, ob_some, if_pos rfl]
    exact ⟨fun z => hi z.1, rfl⟩
theorem M_marks_ok (B : BM h G ob n row) (t y m : Int) : ((inN G t y ∧ 0 ≤ m ∧ m ≤ 2 ∧ kd G (ft G t + y) = 0) ∧ M_marks 121 t y m h = some (mk G (ft G t + y), hput h 125 (ft G t + y) m)) ∨ (¬ (inN G t y ∧ 0 ≤ m ∧ m ≤ 2 ∧ kd G (ft G t + y) = 0) ∧ M_marks 121 t y m h = some (-2, h)) := by
  have W := bm_W B
  have X := bm_X B
  have S := bm_S B
  have nt := wf_nt W
  have nn := wf_nn W
  have s4 : h 121 4 = 122 := ms_at S (by decide)
  have s5 : h 121 5 = 123 := ms_at S (by decide)
  have s7 : h 121 7 = 125 := ms_at S (by decide)
  unfold M_marks M_in M_in_j17
  rw [if_pos kK_121]
  by_cases hi : inN G t y
  · obtain ⟨a0, a1, aw, at_, b0, b1⟩ := inN_in W hi
    obtain ⟨r1, r2, r3, -⟩ := X.2.2.2.2.1 _ a0 a1
    have t0 := hi.1
    have t1 := hi.2.1
    have hft : h 122 t = ft G t := X.2.2.2.1 t t0 (by omega)
    have y1 : kK 122 = 21 ∧ 0 ≤ t ∧ t < kL 122 := ⟨kK_122, t0, by rw [kL_122]; omega⟩
    have y3 : kK 123 = 21 ∧ 0 ≤ ft G t + y ∧ ft G t + y < kL 123 := ⟨kK_123, a0, by rw [kL_123]; omega⟩
    have y5 : kK 125 = 21 ∧ 0 ≤ ft G t + y ∧ ft G t + y < kL 125 := ⟨kK_125, a0, by rw [kL_125]; omega⟩
    rw [M_isNode_y B hi, ob_some, if_neg (by decide)]
    by_cases h0 : m < 0
    · right
      rw [if_pos h0, ob_some, if_pos rfl]
      exact ⟨fun z => by have := z.2.1; omega, rfl⟩
    rw [if_neg h0]
    by_cases h1 : 2 < m
    · right
      rw [if_pos h1, ob_some, if_pos rfl]
      exact ⟨fun z => by have := z.2.2.1; omega, rfl⟩
    · rw [if_neg h1, ob_some, if_neg (by decide), s4, if_pos y1, s5, hft, aw, if_pos y3, r1]
      by_cases hk : kd G (ft G t + y) = 0
      · left
        rw [if_pos hk, s7, if_pos y5, r3]
        exact ⟨⟨hi, by omega, by omega, hk⟩, rfl⟩
      · right
        rw [if_neg hk]
        exact ⟨fun z => hk z.2.2.2, rfl⟩
  · right
    rw [M_isNode_n B hi, ob_some, if_pos rfl]
    exact ⟨fun z => hi z.1, rfl⟩
end
