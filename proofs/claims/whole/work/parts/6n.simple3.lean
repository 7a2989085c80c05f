/-! count, fault, octet; feed, end -/
def TapX (h : Hp) (tl : Int) (tp : Int → Int) : Prop := h 1 1 = tl ∧ 0 ≤ tl ∧ tl ≤ 400 ∧ ∀ i, 0 ≤ i → i < tl → h 2 i = tp i ∧ -128 ≤ tp i ∧ tp i < 128
def TapM (h : Hp) (tl : Int) (tp : Int → Int) : Prop := h 121 20 = tl ∧ ∀ i, 0 ≤ i → i < tl → h 135 i = tp i
def TolX (h : Hp) (wl : Int) (wd : Int → Int) : Prop := h 3 1 = wl ∧ 0 ≤ wl ∧ wl ≤ 2048 ∧ ∀ i, 0 ≤ i → i < wl → h 4 i = wd i ∧ 0 ≤ wd i ∧ wd i < 128
def TolM (h : Hp) (wl : Int) (wd : Int → Int) : Prop := h 121 57 = wl ∧ h 121 56 = 155 ∧ ∀ i, 0 ≤ i → i < wl → h 155 i = wd i
section
variable {h h' : Hp} {P ob n tl wl : Int} {G : Gm} {row tp wd : Int → Int}
theorem count_ok (B : BX h P G ob n row) (M : BM h G ob n row) (hT : h 1 1 = h 121 20) (hW : h 3 1 = h 121 57) (w : Int) : ∃ v, X_count 0 w h = some v ∧ M_count 121 w h = some v := by
  have W := bx_W B
  have R := bx_R B
  have X := bm_X M
  have S := bx_sx B
  have nt := wf_nt W
  have nn := wf_nn W
  have k0 : kK 0 = 10 := by decide
  have k5 : kK 5 = 0 := by decide
  have k1 : kK 1 = 0 := by decide
  have k3 : kK 3 = 0 := by decide
  have kP := bx_kP B
  obtain ⟨v0, a0, b0, c0, d0⟩ := M_bitsOf_ok M (s := 0) (Or.inl rfl)
  obtain ⟨v1, a1, b1, c1, d1⟩ := M_bitsOf_ok M (s := 1) (Or.inr rfl)
  obtain ⟨v2, a2, b2, c2, d2⟩ := M_lettersOfAll_ok M
  have q := B.2.1.2.2.2.2.2.2.2.2
  have e2 : h P 2 = v0 := bits8_eq (f := fun t => t < nT G ∧ sp G (ft G t) = 0) q.1.1.1 q.1.1.2 b0 c0 (fun t t0 t1 => (q.1.2.2 t t0 t1).1) d0
  have e3 : h P 3 = v1 := bits8_eq (f := fun t => t < nT G ∧ sp G (ft G t) = 1) q.1.2.1.1 q.1.2.1.2 b1 c1 (fun t t0 t1 => (q.1.2.2 t t0 t1).2) d1
  have e5 : h P 5 = v2 := bits26_eq q.2.1.1 q.2.1.2 b2 c2 q.2.2 d2
  have es : ∃ v, Gr_startLabel P h = some v ∧ M_start 121 h = some v := by
    obtain ⟨g0, g1, g2, g3, g4, -⟩ := GrO_k R.1
    have s9 : h P 9 = P + 4 := R.2.1.2.2.2.1
    have s6 : h 121 6 = 124 := ms_at (bm_S M) (by decide)
    unfold Gr_startLabel M_start
    rw [if_pos kP, if_pos kK_121, R.2.2.1, X.1]
    by_cases hz : nT G = 0
    · rw [if_pos hz, if_pos hz]; exact ⟨_, rfl, rfl⟩
    · have st := wf_step W (t := 0) (by decide) (by omega)
      have fi := ft_in W (t := 1) (by decide) (by omega)
      have f0 := (wf_ft W).1
      rw [show (0 : Int) + 1 = 1 by decide] at st
      have y4 : kK (P + 4) = 21 ∧ (0 : Int) ≤ 0 ∧ 0 < kL (P + 4) := ⟨g4.1, by decide, by rw [g4.2]; decide⟩
      have y6 : kK 124 = 21 ∧ (0 : Int) ≤ 0 ∧ 0 < kL 124 := by decide
      rw [if_neg hz, if_neg hz, s9, s6, if_pos y4, if_pos y6, (R.2.2.2.2.2.1 0 (by decide) (by omega)).2.2.1, (X.2.2.2.2.1 0 (by decide) (by omega)).2.1]
      exact ⟨_, rfl, rfl⟩
  obtain ⟨vs, es1, es2⟩ := es
  unfold X_count M_count
  rw [if_pos k0, bx_15 B, if_pos kP, if_pos kK_121, sx_at S (show (0, 2, 5) ∈ shX by decide), if_pos k5, sx_at S (show (0, 0, 1) ∈ shX by decide), if_pos k1, sx_at S (show (0, 1, 3) ∈ shX by decide), if_pos k3, R.2.2.1, R.2.2.2.1, (bx_n B).1, e2, e3, (bx_ob B).1, e5, es1, es2, a0, a1, a2, X.1, X.2.1, (bm_L M).1, X.2.2.1, hT, hW]
  simp only [ob_some, k0, if_true, kK_121, kP, k5, k1, k3]
  by_cases z0 : w = 0
  · simp [z0]
  by_cases z1 : w = 1
  · simp [z1]
  by_cases z2 : w = 2
  · simp [z2]
  by_cases z3 : w = 3
  · simp [z3]
  by_cases z4 : w = 4
  · simp [z4]
  by_cases z5 : w = 5
  · simp [z5]
  by_cases z6 : w = 6
  · simp [z6]
  by_cases z7 : w = 7
  · simp [z7]
  by_cases z8 : w = 8
  · simp [z8]
  by_cases z9 : w = 9
  · simp [z9]
  · simp [z0, z1, z2, z3, z4, z5, z6, z7, z8, z9]
theorem fault_ok (S : ShX h) (h0 : h 7 0 = h 121 27) (h1 : h 7 1 = h 121 28) (w : Int) : ∃ v, X_fault 0 w h = some v ∧ M_fault 121 w h = some v := by
  have k0 : kK 0 = 10 := by decide
  have k7 : kK 7 = 4 := by decide
  unfold X_fault M_fault
  rw [if_pos k0, sx_at S (show (0, 3, 7) ∈ shX by decide), if_pos k7, h0, h1]
  by_cases z0 : w = 0
  · simp [z0, kK_121]
  by_cases z1 : w = 1
  · simp [z1, kK_121, k0, k7]
  · simp [z0, z1]
theorem octet_ok (S : ShX h) (T : TolX h wl wd) (U : TolM h wl wd) (i : Int) : ∃ v, X_octet 0 i h = some v ∧ M_octet 121 i h = some v := by
  have k0 : kK 0 = 10 := by decide
  have k3 : kK 3 = 0 := by decide
  obtain ⟨t1, t2, t3, t4⟩ := T
  obtain ⟨u1, u2, u3⟩ := U
  unfold X_octet M_octet By_at M_in M_in_j17
  rw [if_pos k0, sx_at S (show (0, 1, 3) ∈ shX by decide), if_pos k3, if_pos k3, if_pos kK_121, t1, u1, u2, sx_at S (show (3, 0, 4) ∈ shX by decide), show w32 (wl - 1) = wl - 1 by unfold w32; omega]
  by_cases h0 : i < 0
  · rw [if_pos h0, if_pos h0, ob_some, ob_some, if_pos rfl]; exact ⟨_, rfl, rfl⟩
  rw [if_neg h0, if_neg h0]
  by_cases h1 : wl ≤ i
  · rw [if_pos h1, if_pos (show wl - 1 < i by omega), ob_some, ob_some, if_pos rfl]; exact ⟨_, rfl, rfl⟩
  have y4 : kK 4 = 20 ∧ (0 : Int) ≤ i ∧ i < kL 4 := ⟨by decide, by omega, by rw [show kL 4 = 2048 by decide]; omega⟩
  have y5 : kK 155 = 20 ∧ (0 : Int) ≤ i ∧ i < kL 155 := ⟨by decide, by omega, by rw [show kL 155 = 8000 by decide]; omega⟩
  have := t4 i (by omega) (by omega)
  rw [if_neg h1, if_neg (show ¬ wl - 1 < i by omega), if_pos y4.1, if_pos y4.2.2, if_pos y4, ob_some, ob_some, if_neg (by decide), if_pos y5, u3 i (by omega) (by omega), this.1, and255 this.2.1 (by omega)]
  exact ⟨_, rfl, rfl⟩
/-! end -/
theorem X_end_ok (S : ShX h) (T : TapX h tl tp) (m : Int) : ∃ h', X_end 0 m h = some (if 0 ≤ m ∧ m ≤ tl then m else -1, h') ∧ TapX h' (if 0 ≤ m ∧ m ≤ tl then m else tl) tp ∧ (∀ c s, (c ≠ 1 ∨ s ≠ 1) → h' c s = h c s) := by
  have k0 : kK 0 = 10 := by decide
  have k1 : kK 1 = 0 := by decide
  obtain ⟨t1, t2, t3, t4⟩ := id T
  unfold X_end
  rw [if_pos k0, sx_at S (show (0, 0, 1) ∈ shX by decide), if_pos k1, t1]
  by_cases h0 : m < 0
  · have z : ¬ (0 ≤ m ∧ m ≤ tl) := by omega
    rw [if_pos h0, if_neg z, if_neg z]
    exact ⟨h, rfl, T, fun _ _ _ => rfl⟩
  rw [if_neg h0]
  by_cases h1 : m ≤ tl
  · have z : 0 ≤ m ∧ m ≤ tl := by omega
    rw [if_pos h1, if_pos z, if_pos z]
    refine ⟨_, rfl, ⟨by rw [hput_eq], by omega, by omega, fun i i0 i1 => ?_⟩, fun c s hc => ?_⟩
    · rw [hput_ne1 (by decide)]; exact t4 i i0 (by omega)
    · rcases hc with hc | hc
      · exact hput_ne1 hc
      · exact hput_ne2 hc
  · have z : ¬ (0 ≤ m ∧ m ≤ tl) := by omega
    rw [if_neg h1, if_neg z, if_neg z]
    exact ⟨h, rfl, T, fun _ _ _ => rfl⟩
theorem M_end_ok (T : TapM h tl tp) (t2 : 0 ≤ tl) (m : Int) : ∃ h', M_end 121 m h = some (if 0 ≤ m ∧ m ≤ tl then m else -1, h') ∧ TapM h' (if 0 ≤ m ∧ m ≤ tl then m else tl) tp ∧ (∀ c s, (c ≠ 121 ∨ s ≠ 20) → h' c s = h c s) := by
  unfold M_end M_in M_in_j17
  rw [if_pos kK_121, T.1]
  by_cases h0 : m < 0
  · have z : ¬ (0 ≤ m ∧ m ≤ tl) := by omega
    rw [if_pos h0, ob_some, if_pos rfl, if_neg z, if_neg z]
    exact ⟨h, rfl, T, fun _ _ _ => rfl⟩
  rw [if_neg h0]
  by_cases h1 : tl < m
  · have z : ¬ (0 ≤ m ∧ m ≤ tl) := by omega
    rw [if_pos h1, ob_some, if_pos rfl, if_neg z, if_neg z]
    exact ⟨h, rfl, T, fun _ _ _ => rfl⟩
  · have z : 0 ≤ m ∧ m ≤ tl := by omega
    rw [if_neg h1, ob_some, if_neg (by decide), if_pos z, if_pos z]
    refine ⟨_, rfl, ⟨by rw [hput_eq], fun i i0 i1 => ?_⟩, fun c s hc => ?_⟩
    · rw [hput_ne1 (by decide)]; exact T.2 i i0 (by omega)
    · rcases hc with hc | hc
      · exact hput_ne1 hc
      · exact hput_ne2 hc
/-! feed -/
def fdS (a b c d e k : Int) : Int := if k < 4 then a else if k < 8 then b else if k < 12 then c else if k < 16 then d else e
def fdB (a b c d e k : Int) : Int := w8 (w8 (i_shr (fdS a b c d e k) (24 - 8 * (k % 4))))
def fdT (tl : Int) (tp : Int → Int) (a b c d e : Int) : Int → Int := fun i => if i < tl then tp i else fdB a b c d e (i - tl)
theorem i_shr_0 {x : Int} (hx : r32 x) : i_shr x 0 = x := by
  unfold i_shr
  have : (i32 0 &&& 31 : Int32) = 0 := by decide
  rw [this]
  have : i32 x >>> (0 : Int32) = i32 x := by
    apply Int32.toBitVec_inj.mp
    rw [Int32.toBitVec_shiftRight]
    show BitVec.sshiftRight' _ _ = _
    unfold BitVec.sshiftRight'
    rw [show ((Int32.toBitVec 0).smod 32).toNat = 0 by decide]
    exact BitVec.sshiftRight_zero
  rw [this, i32_t hx]
theorem By_add_t (S : h 1 0 = 2) (T : TapX h tl tp) (hl : tl < 400) {v : Int} (hv : tp tl = w8 (w8 v)) : ∃ h', By_add 1 v h = some h' ∧ TapX h' (tl + 1) tp ∧ (∀ c s, (c ≠ 1 ∨ s ≠ 1) → c ≠ 2 → h' c s = h c s) := by
  obtain ⟨t1, t2, t3, t4⟩ := T
  have y2 : kK 2 = 20 ∧ (0 : Int) ≤ tl ∧ tl < kL 2 := ⟨by decide, t2, by rw [show kL 2 = 400 by decide]; exact hl⟩
  unfold By_add
  rw [if_pos (show kK 1 = 0 by decide), t1, if_neg (by omega), S, if_pos y2.1, if_neg (by rw [show kL 2 = 400 by decide]; omega), if_pos y2]
  refine ⟨_, rfl, ⟨?_, by omega, by omega, ?_⟩, ?_⟩
  · rw [hput_eq, hput_ne1 (by decide), t1]
    unfold w32; omega
  · intro i i0 i1
    rw [hput_ne1 (by decide)]
    by_cases hi : i = tl
    · subst hi
      rw [hput_eq, hv]
      refine ⟨rfl, ?_⟩
      unfold w8; omega
    · rw [hput_ne2 hi]; exact t4 i i0 (by omega)
  · intro c s hc h2
    rw [show ∀ (g : Hp) (x : Int), hput g 1 1 x c s = g c s from fun g x => by
      rcases hc with hc | hc
      · exact hput_ne1 hc
      · exact hput_ne2 hc, hput_ne1 h2]
theorem By_addFour_t (S : h 1 0 = 2) (T : TapX h tl tp) (hl : tl + 4 ≤ 400) {v : Int} (v0 : tp tl = w8 (w8 (i_shr v 24))) (v1 : tp (tl + 1) = w8 (w8 (i_shr v 16))) (v2 : tp (tl + 2) = w8 (w8 (i_shr v 8))) (v3 : tp (tl + 3) = w8 (w8 v)) : ∃ h', By_addFour 1 v h = some h' ∧ TapX h' (tl + 4) tp ∧ (∀ c s, (c ≠ 1 ∨ s ≠ 1) → c ≠ 2 → h' c s = h c s) := by
  obtain ⟨g1, e1, T1, F1⟩ := By_add_t S T (by omega) v0
  obtain ⟨g2, e2, T2, F2⟩ := By_add_t (by rw [F1 1 0 (by decide) (by decide)]; exact S) T1 (by omega) v1
  have S2 : g2 1 0 = 2 := by rw [F2 1 0 (by decide) (by decide), F1 1 0 (by decide) (by decide)]; exact S
  obtain ⟨g3, e3, T3, F3⟩ := By_add_t S2 T2 (by omega) (v := i_shr v 8) (by rw [show tl + 1 + 1 = tl + 2 by omega]; exact v2)
  have S3 : g3 1 0 = 2 := by rw [F3 1 0 (by decide) (by decide)]; exact S2
  obtain ⟨g4, e4, T4, F4⟩ := By_add_t S3 T3 (by omega) (v := v) (by rw [show tl + 1 + 1 + 1 = tl + 3 by omega]; exact v3)
  refine ⟨g4, ?_, by rw [show tl + 4 = tl + 1 + 1 + 1 + 1 by omega]; exact T4, fun c s a b => by rw [F4 c s a b, F3 c s a b, F2 c s a b, F1 c s a b]⟩
  unfold By_addFour
  rw [if_pos (show kK 1 = 0 by decide), e1, ob_some, e2, ob_some, e3, ob_some, e4, ob_some]
theorem X_feed_ok (S : ShX h) (T : TapX h tl tp) {a b c d e : Int} (ra : r32 a) (rb : r32 b) (rc : r32 c) (rd : r32 d) (re : r32 e) : ∃ h', X_feed 0 a b c d e h = some (if tl + 20 ≤ 400 then tl + 20 else -1, h') ∧ TapX h' (if tl + 20 ≤ 400 then tl + 20 else tl) (fdT tl tp a b c d e) ∧ (∀ c s, (c ≠ 1 ∨ s ≠ 1) → c ≠ 2 → h' c s = h c s) := by
  have T0 : TapX h tl (fdT tl tp a b c d e) := by
    obtain ⟨t1, t2, t3, t4⟩ := T
    refine ⟨t1, t2, t3, fun i i0 i1 => ?_⟩
    unfold fdT
    rw [if_pos i1]
    exact t4 i i0 i1
  have t1 := T.1
  have t2 := T.2.1
  have t3 := T.2.2.1
  have s1 : h 1 0 = 2 := sx_at S (by decide)
  have k0 : kK 0 = 10 := by decide
  have k1 : kK 1 = 0 := by decide
  unfold X_feed By_room
  rw [if_pos k0, sx_at S (show (0, 0, 1) ∈ shX by decide), if_pos k1, if_pos k1, s1, if_pos (by decide), t1, ob_some, show w32 (kL 2 - tl) = 400 - tl by rw [show kL 2 = 400 by decide]; unfold w32; omega]
  by_cases hl : tl + 20 ≤ 400
  · have byte : ∀ (k : Int) (x : Int), 0 ≤ k → fdT tl tp a b c d e (tl + k) = fdB a b c d e k := by
      intro k x k0
      unfold fdT
      rw [if_neg (by omega), show tl + k - tl = k by omega]
    have go : ∀ (g : Hp) (m v : Int), 0 ≤ m → m + 4 ≤ 20 → r32 v → (∀ c s, (c ≠ 1 ∨ s ≠ 1) → c ≠ 2 → g c s = h c s) → TapX g (tl + m) (fdT tl tp a b c d e) → m % 4 = 0 → fdS a b c d e m = v → fdS a b c d e (m + 1) = v → fdS a b c d e (m + 2) = v → fdS a b c d e (m + 3) = v → ∃ g', By_addFour 1 v g = some g' ∧ (∀ c s, (c ≠ 1 ∨ s ≠ 1) → c ≠ 2 → g' c s = h c s) ∧ TapX g' (tl + (m + 4)) (fdT tl tp a b c d e) := by
      intro g m v m0 m1 rv F Tg mm f0 f1 f2 f3
      have sg : g 1 0 = 2 := by rw [F 1 0 (by decide) (by decide)]; exact s1
      obtain ⟨g', x1, x2, x3⟩ := By_addFour_t sg Tg (by omega) (v := v)
        (by rw [byte m 0 m0]; unfold fdB; rw [f0, mm]; rfl)
        (by rw [show tl + m + 1 = tl + (m + 1) by omega, byte (m + 1) 0 (by omega)]; unfold fdB; rw [f1, show (m + 1) % 4 = 1 by omega]; rfl)
        (by rw [show tl + m + 2 = tl + (m + 2) by omega, byte (m + 2) 0 (by omega)]; unfold fdB; rw [f2, show (m + 2) % 4 = 2 by omega]; rfl)
        (by rw [show tl + m + 3 = tl + (m + 3) by omega, byte (m + 3) 0 (by omega)]; unfold fdB; rw [f3, show (m + 3) % 4 = 3 by omega, show (24 - 8 * 3 : Int) = 0 by decide, i_shr_0 rv])
      exact ⟨g', x1, fun c s p q => by rw [x3 c s p q, F c s p q], by rw [show tl + (m + 4) = tl + m + 4 by omega]; exact x2⟩
    obtain ⟨g1, e1, F1, T1⟩ := go h 0 a (by decide) (by decide) ra (fun _ _ _ _ => rfl) (by rw [Int.add_zero]; exact T0) (by decide) rfl rfl rfl rfl
    obtain ⟨g2, e2, F2, T2⟩ := go g1 4 b (by decide) (by decide) rb F1 T1 (by decide) rfl rfl rfl rfl
    obtain ⟨g3, e3, F3, T3⟩ := go g2 8 c (by decide) (by decide) rc F2 T2 (by decide) rfl rfl rfl rfl
    obtain ⟨g4, e4, F4, T4⟩ := go g3 12 d (by decide) (by decide) rd F3 T3 (by decide) rfl rfl rfl rfl
    obtain ⟨g5, e5, F5, T5⟩ := go g4 16 e (by decide) (by decide) re F4 T4 (by decide) rfl rfl rfl rfl
    have z1 : ∀ g : Hp, (∀ c s, (c ≠ 1 ∨ s ≠ 1) → c ≠ 2 → g c s = h c s) → g 0 0 = 1 := fun g F => by rw [F 0 0 (by decide) (by decide)]; exact sx_at S (by decide)
    rw [if_pos (by omega), if_pos hl, if_pos hl, e1, ob_some, z1 g1 F1, if_pos k1, e2, ob_some, z1 g2 F2, if_pos k1, e3, ob_some, z1 g3 F3, if_pos k1, e4, ob_some, z1 g4 F4, if_pos k1, e5, ob_some, z1 g5 F5, if_pos k1, T5.1]
    exact ⟨g5, rfl, T5, F5⟩
  · rw [if_neg (by omega), if_neg hl, if_neg hl]
    exact ⟨h, rfl, T0, fun _ _ _ _ => rfl⟩
theorem M_feed_ok (S : MShp h) (T : TapM h tl tp) (t2 : 0 ≤ tl) (t3 : tl ≤ 400) (a b c d e : Int) : ∃ h', M_feed 121 a b c d e h = some (if tl + 20 ≤ 400 then tl + 20 else -1, h') ∧ TapM h' (if tl + 20 ≤ 400 then tl + 20 else tl) (fdT tl tp a b c d e) ∧ (∀ c s, (c ≠ 121 ∨ s ≠ 20) → c ≠ 135 → c ≠ 136 → h' c s = h c s) := by
  have T0 : TapM h tl (fdT tl tp a b c d e) := by
    refine ⟨T.1, fun i i0 i1 => ?_⟩
    unfold fdT
    rw [if_pos i1]
    exact T.2 i i0 i1
  have s21 : h 121 21 = 136 := ms_at S (by decide)
  have s19 : h 121 19 = 135 := ms_at S (by decide)
  unfold M_feed
  rw [if_pos kK_121, T.1, show w32 (tl + 20) = tl + 20 by unfold w32; omega]
  by_cases hl : tl + 20 ≤ 400
  · have h121 : ∀ (g : Hp) (k v : Int), (hput g 136 k v) 121 21 = g 121 21 := fun g k v => hput_ne1 (by decide)
    simp only [h121, s21]
    rw [if_pos hl, if_pos (by decide), if_pos (by decide), if_pos (by decide), if_pos (by decide), if_pos (by decide), if_pos hl, if_pos hl]
    have h5 : ∃ h5 : Hp, h5 = hput (hput (hput (hput (hput h 136 0 a) 136 1 b) 136 2 c) 136 3 d) 136 4 e := ⟨_, rfl⟩
    obtain ⟨h5, e5⟩ := h5
    rw [← e5]
    have v5 : ∀ k, 0 ≤ k → k < 20 → h5 136 (k / 4) = fdS a b c d e k := by
      intro k k0 k1
      rw [e5]
      unfold fdS
      by_cases q0 : k < 4
      · rw [if_pos q0, show k / 4 = 0 by omega, hput_ne2 (by decide), hput_ne2 (by decide), hput_ne2 (by decide), hput_ne2 (by decide), hput_eq]
      rw [if_neg q0]
      by_cases q1 : k < 8
      · rw [if_pos q1, show k / 4 = 1 by omega, hput_ne2 (by decide), hput_ne2 (by decide), hput_ne2 (by decide), hput_eq]
      rw [if_neg q1]
      by_cases q2 : k < 12
      · rw [if_pos q2, show k / 4 = 2 by omega, hput_ne2 (by decide), hput_ne2 (by decide), hput_eq]
      rw [if_neg q2]
      by_cases q3 : k < 16
      · rw [if_pos q3, show k / 4 = 3 by omega, hput_ne2 (by decide), hput_eq]
      rw [if_neg q3, show k / 4 = 4 by omega, hput_eq]
    have f5 : ∀ c s, c ≠ 136 → h5 c s = h c s := fun c s hc => by rw [e5, hput_ne1 hc, hput_ne1 hc, hput_ne1 hc, hput_ne1 hc, hput_ne1 hc]
    obtain ⟨g, eg, gF, gT⟩ := loop_ok (body := fun q => M_feed_L55 121 q.1 q.2) (fun s => 0 ≤ s.1 ∧ s.1 ≤ 20 ∧ (∀ c k, c ≠ 135 → s.2 c k = h5 c k) ∧ (∀ i, 0 ≤ i → i < tl + s.1 → s.2 135 i = fdT tl tp a b c d e i)) (fun s => (20 - s.1).toNat) (fun g => (∀ c k, c ≠ 135 → g c k = h5 c k) ∧ (∀ i, 0 ≤ i → i < tl + 20 → g 135 i = fdT tl tp a b c d e i)) (by
      rintro ⟨k, g⟩ ⟨k0, k1, hF, hT⟩
      simp only at k0 k1 hF hT
      simp only
      unfold M_feed_L55
      by_cases hk : 20 ≤ k
      · right
        exact ⟨g, by rw [if_pos hk], hF, fun i i0 i1 => hT i i0 (by omega)⟩
      · left
        have g21 : g 121 21 = 136 := by rw [hF 121 21 (by decide), f5 121 21 (by decide)]; exact s21
        have g19 : g 121 19 = 135 := by rw [hF 121 19 (by decide), f5 121 19 (by decide)]; exact s19
        have g20 : g 121 20 = tl := by rw [hF 121 20 (by decide), f5 121 20 (by decide)]; exact T.1
        have d4 : w32 (Int.tdiv k 4) = k / 4 := by rw [Int.tdiv_eq_ediv_of_nonneg k0]; unfold w32; omega
        have m4 : w32 (24 - w32 (8 * w32 (Int.tmod k 4))) = 24 - 8 * (k % 4) := by rw [Int.tmod_eq_emod_of_nonneg k0]; unfold w32; omega
        have y1 : kK 136 = 21 ∧ (0 : Int) ≤ k / 4 ∧ k / 4 < kL 136 := ⟨by decide, by omega, by rw [show kL 136 = 5 by decide]; omega⟩
        have y2 : kK 135 = 20 ∧ (0 : Int) ≤ tl + k ∧ tl + k < kL 135 := ⟨by decide, by omega, by rw [show kL 135 = 400 by decide]; omega⟩
        refine ⟨(k + 1, hput g 135 (tl + k) (fdB a b c d e k)), ?_, ⟨by simp only; omega, by simp only; omega, ?_, ?_⟩, by simp only; omega⟩
        · rw [if_neg hk, if_pos kK_121, g21, g19, g20, d4, m4, if_pos y1, show w32 (tl + k) = tl + k by unfold w32; omega, if_pos y2, hF 136 _ (by decide), v5 k k0 (by omega), show w32 (k + 1) = k + 1 by unfold w32; omega]
          rfl
        · intro c s hc
          simp only
          rw [hput_ne1 hc]
          exact hF c s hc
        · intro i i0 i1
          simp only at i1 ⊢
          by_cases hi : i = tl + k
          · subst hi
            rw [hput_eq]
            unfold fdT
            rw [if_neg (by omega), show tl + k - tl = k by omega]
          · rw [hput_ne2 hi]
            exact hT i i0 (by omega)) LN (0, h5) ⟨Int.le_refl _, by simp only; omega, fun _ _ _ => rfl, fun i i0 i1 => by
        simp only at i1 ⊢
        rw [f5 135 i (by decide)]
        exact T0.2 i i0 (by omega)⟩ (by unfold LN; simp only; omega)
    rw [eg, ob_some]
    have g20 : g 121 20 = tl := by rw [gF 121 20 (by decide), f5 121 20 (by decide)]; exact T.1
    rw [g20, hput_eq, show w32 (tl + 20) = tl + 20 by unfold w32; omega]
    refine ⟨_, rfl, ⟨by rw [hput_eq], fun i i0 i1 => by rw [hput_ne1 (by decide)]; exact gT i i0 i1⟩, ?_⟩
    intro c s hc h1 h2
    rw [show ∀ (g : Hp) (x : Int), hput g 121 20 x c s = g c s from fun g x => by
      rcases hc with hc | hc
      · exact hput_ne1 hc
      · exact hput_ne2 hc, gF c s h1, f5 c s h2]
  · rw [if_neg hl, if_neg hl, if_neg hl]
    exact ⟨h, rfl, T0, fun _ _ _ _ _ => rfl⟩
end
