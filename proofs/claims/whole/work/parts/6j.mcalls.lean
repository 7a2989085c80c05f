/-! the reference: calls that ask the search -/
section
variable {h h' : Hp} {G : Gm} {ob n : Int} {row : Int → Int}
theorem Look.kp {b : Int} (K : Look h G b n row) (D : D144 h h') (hM : Memo h' G (ouB b) (h 138)) : Look h' G b n row := by
  have e : h' 138 = h 138 := funext fun i => D 138 i (by decide)
  have R := RepM_144 K.1 D
  unfold Look
  rw [e]
  exact ⟨R, hM, by rw [D 121 34 (by decide)]; exact K.2.2.1, K.2.2.2⟩
theorem root_item (W : WF G) {t i j : Int} (t0 : 0 ≤ t) (t1 : t < nT G) (hs : sp G (ft G t) = 0) (i0 : 0 ≤ i) (ij : i ≤ j) (j8 : j ≤ 8) : itm G 1 (ft G t) i j (-1) (-1) := by
  have r := root_in W t0 t1
  exact ⟨Or.inr rfl, r.1, r.2.1, i0, ij, j8, Or.inr ⟨hs, rfl, rfl⟩⟩
theorem M_ask {b : Int} (W : WF G) (K : Look h G b n row) {d : Nat} (hd : 1950 ≤ d) {half node i j p q : Int} (hi : itm G half node i j p q) (hj : j ≤ n) : ∃ h', M_waysOf d 121 half node i j p q h = some (capN (wW G (ouB b) row half node i j p q), h') ∧ D144 h h' ∧ Look h' G b n row := by
  obtain ⟨g, e, D, M⟩ := M_waysOf_ok W (d := d) hi (by have := fr_max W hi; omega) K.1 K.2.1
  rw [wW_row W K.2.2.2 hi hj] at e
  exact ⟨g, e, D, K.kp D M⟩
theorem M_waysOfAll_ok {b m : Int} (W : WF G) (K : Look h G b n row) {d : Nat} (hd : 1951 ≤ d) (m0 : 0 ≤ m) (m1 : m ≤ n) (n8 : n ≤ 8) : ∃ h', M_waysOfAll d 121 m h = some (capN (stN G (ouB b) row m), h') ∧ D144 h h' ∧ Look h' G b n row := by
  have nt := wf_nt W
  have nn := wf_nn W
  obtain ⟨g, e, D, M⟩ := acc_loop (h := h) (body := fun q => M_waysOfAll_L5 d 121 m q.1 q.2.1 q.2.2) (A := 0) (f := fun t => if goB G (ouB b) t (lb G 0) 0 then wW G (ouB b) (h 138) 1 (ft G t) 0 m (-1) (-1) else 0) (lo := 0) (hi := nT G - 1) K.2.1 (by omega) (by omega) (by
    intro acc t h1 t0 t1 D1 M1
    have R1 := RepM_144 K.1 D1
    have e1 : h1 121 1 = nT G := R1.2.1
    have e6 : h1 121 6 = 124 := ms_at R1.1 (by decide)
    have st := wf_step W (t := 0) (by decide) (by omega)
    have fi := ft_in W (t := 1) (by decide) (by omega)
    have f0 := (wf_ft W).1
    rw [show (0 : Int) + 1 = 1 by decide] at st
    have e0 : h1 124 0 = lb G 0 := (R1.2.2.2.2.1 0 (by decide) (by omega)).2.1
    have ew : w32 (t + 1) = t + 1 := by unfold w32; omega
    simp only
    unfold M_waysOfAll_L5 M_waysOfAll_j48 M_start
    rw [if_pos kK_121, e1, if_neg (by omega), if_pos kK_121, if_neg (by omega), e6, if_pos ⟨kK_124, by decide, by rw [kL_124]; decide⟩, ob_some, e0, M_mayGo_ok R1 W t0 (by omega), ob_some, ew]
    cases hg : goB G (ouB b) t (lb G 0) 0
    · rw [if_pos (by decide)]
      exact ⟨h1, rfl, D1, M1⟩
    · rw [if_neg (by decide), M_root_ok R1 W t0 (by omega), ob_some]
      have hi := root_item W (i := 0) (j := m) t0 (by omega) (goB_spec hg).1 (by decide) m0 (by omega)
      obtain ⟨h2, x, D2, M2⟩ := M_waysOf_ok W (d := d - 1) hi (by have := fr_max W hi; omega) R1 M1
      rw [x, ob_some, M_sum_ok, ob_some]
      exact ⟨h2, rfl, D1.tr D2, M2⟩) (by
    intro acc h1 D1 M1
    have R1 := RepM_144 K.1 D1
    simp only
    unfold M_waysOfAll_L5
    rw [if_pos kK_121, R1.2.1, if_pos (by omega)])
  refine ⟨g, ?_, D, K.kp D M⟩
  have e2 : 0 + sI (fun t => if goB G (ouB b) t (lb G 0) 0 then wW G (ouB b) (h 138) 1 (ft G t) 0 m (-1) (-1) else 0) 0 (nT G - 1) = stN G (ouB b) row m := by
    rw [← stN_row W K.2.2.2 m0 m1 n8]
    unfold stN
    split
    · rename_i z
      rw [sI_none (by omega)]
    · rw [Nat.zero_add]; rfl
  rw [e2] at e
  unfold M_waysOfAll
  rw [show capN 0 = 0 by decide] at e
  rw [e, ob_some]
theorem i_or_00 (B : BM h G ob n row) : i_or ob 0 = ob := i_or_0 (bm_ob B).1 (by have := (bm_ob B).2; omega)
/-- the look at the sentence as it is -/
theorem M_look0 (B : BM h G ob n row) : ∃ h', M_looksAt 121 0 h = some h' ∧ Lk h h' ∧ Look h' G ob n row := by
  have e := i_or_00 B
  have o := bm_ob B
  obtain ⟨g, x, F, K, -⟩ := M_looksAt_ok B (more := 0) (by omega) (by omega)
  rw [e] at K
  exact ⟨g, x, F, K⟩
theorem cap_le0 {m : Nat} : capN m ≤ 0 ↔ m = 0 := by
  have := capN_in m
  constructor
  · intro z; exact capN_0.mp (by omega)
  · intro z; subst z; decide
theorem M_ways_ok (B : BM h G ob n row) {d : Nat} (hd : 1952 ≤ d) : ∃ h', M_ways d 121 h = some (shw (capN (stN G (ouB ob) row n)), h') ∧ Lk h h' := by
  have W := bm_W B
  obtain ⟨l1, l2, l3, l4⟩ := bm_L B
  obtain ⟨g, x, F, K⟩ := M_look0 B
  obtain ⟨g2, x2, D2, K2⟩ := M_waysOfAll_ok W K (d := d - 1) (by omega) l2 (Int.le_refl _) l3
  refine ⟨g2, ?_, F.tr (Lk.of144 D2)⟩
  unfold M_ways M_toldAs
  rw [if_pos kK_121, x, ob_some, K.2.2.1, x2, ob_some]
  rfl
theorem M_reads_ok (B : BM h G ob n row) {d : Nat} (hd : 1952 ≤ d) : ∃ h', M_reads d 121 h = some (if stN G (ouB ob) row n = 0 then 0 else 1, h') ∧ Lk h h' := by
  have W := bm_W B
  obtain ⟨l1, l2, l3, l4⟩ := bm_L B
  obtain ⟨g, x, F, K⟩ := M_look0 B
  obtain ⟨g2, x2, D2, K2⟩ := M_waysOfAll_ok W K (d := d - 1) (by omega) l2 (Int.le_refl _) l3
  refine ⟨g2, ?_, F.tr (Lk.of144 D2)⟩
  unfold M_reads
  rw [if_pos kK_121, x, ob_some, K.2.2.1, x2, ob_some]
  simp only [cap_le0]
theorem M_without_ok (B : BM h G ob n row) {d : Nat} (hd : 1952 ≤ d) (t : Int) : ∃ h', M_without d 121 t h = some (if 0 ≤ t ∧ t < nT G then shw (capN (stN G (ouB (i_or ob (i_shl 1 t))) row n)) else -2, h') ∧ Lk h h' := by
  have W := bm_W B
  have nt := wf_nt W
  have o := bm_ob B
  obtain ⟨l1, l2, l3, l4⟩ := bm_L B
  have e1 : h 121 1 = nT G := (bm_X B).1
  unfold M_without M_isTree M_in M_in_j17
  rw [if_pos kK_121, if_pos kK_121, e1, show w32 (nT G - 1) = nT G - 1 by unfold w32; omega]
  by_cases h0 : t < 0
  · rw [if_pos h0, ob_some, if_pos (Or.inl rfl), ob_some, if_pos rfl, if_neg (by omega)]
    exact ⟨h, rfl, Lk.rf⟩
  · rw [if_neg h0]
    by_cases h1 : nT G - 1 < t
    · rw [if_pos h1, ob_some, if_pos (Or.inl rfl), ob_some, if_pos rfl, if_neg (by omega)]
      exact ⟨h, rfl, Lk.rf⟩
    · rw [if_neg h1, ob_some, if_pos (Or.inr rfl), ob_some, if_neg (by decide), if_pos ⟨by omega, by omega⟩]
      have ob1 := or1_in (x := ob) (t := t) (n := 8) o.1 (by decide) (by decide) (by rw [show (((2 ^ (8 : Int).toNat : Nat)) : Int) = 256 by decide]; omega) (by omega) (by omega)
      rw [show (((2 ^ (8 : Int).toNat : Nat)) : Int) = 256 by decide] at ob1
      obtain ⟨g, x, F, K, -⟩ := M_looksAt_ok B (more := i_shl 1 t) ob1.1 ob1.2
      obtain ⟨g2, x2, D2, K2⟩ := M_waysOfAll_ok W K (d := d - 1) (by omega) l2 (Int.le_refl _) l3
      refine ⟨g2, ?_, F.tr (Lk.of144 D2)⟩
      rw [x, ob_some, K.2.2.1, x2, ob_some]
      rfl
/-- loops that gather bits -/
theorem or_loop {X : Type} {body : Int × Int × X → Option ((Int × Int × X) ⊕ (Int × X))} {f : Int → Bool} {k : Nat} (I : X → Prop) (hk : k < 31) {x0 : X} (i0 : I x0)
    (step : ∀ (acc t : Int) (x : X), 0 ≤ t → t < k → acc = orF f t.toNat → I x → ∃ x', body (acc, t, x) = some (.inl (orF f (t.toNat + 1), t + 1, x')) ∧ I x')
    (exit : ∀ (acc : Int) (x : X), I x → body (acc, (k : Int), x) = some (.inr (acc, x))) : ∃ x, loopN body LN (0, 0, x0) = some (orF f k, x) ∧ I x := by
  obtain ⟨r, e, p1, p2⟩ := loop_ok (body := body) (fun s => 0 ≤ s.2.1 ∧ s.2.1 ≤ k ∧ s.1 = orF f s.2.1.toNat ∧ I s.2.2) (fun s => (k - s.2.1).toNat) (fun r => r.1 = orF f k ∧ I r.2) (by
    rintro ⟨acc, t, x⟩ ⟨t0, t1, ha, hI⟩
    simp only at t0 t1 ha hI
    by_cases ht : t < k
    · left
      obtain ⟨x', e1, e2⟩ := step acc t x t0 ht ha hI
      refine ⟨_, e1, ⟨by simp only; omega, by simp only; omega, ?_, e2⟩, by simp only; omega⟩
      simp only
      rw [show (t + 1).toNat = t.toNat + 1 by omega]
    · right
      have : t = k := by omega
      subst this
      refine ⟨_, exit acc x hI, ?_, hI⟩
      simp only
      rw [ha, Int.toNat_natCast]) LN (0, 0, x0) ⟨by simp only; omega, by simp only; omega, rfl, i0⟩ (by unfold LN; simp only; omega)
  obtain ⟨r1, r2⟩ := r
  simp only at p1 p2
  exact ⟨r2, by rw [e, p1], p2⟩
theorem M_heads_ok (B : BM h G ob n row) {d : Nat} (hd : 1952 ≤ d) : ∃ h', M_heads d 121 h = some (orF (fun m => decide (stN G (ouB ob) row m ≠ 0)) (n + 1).toNat, h') ∧ Lk h h' := by
  have W := bm_W B
  obtain ⟨l1, l2, l3, l4⟩ := bm_L B
  obtain ⟨g, x, F, K⟩ := M_look0 B
  obtain ⟨g2, x2, F2, K2⟩ := or_loop (body := fun q => M_heads_L9 d 121 q.1 q.2.1 q.2.2) (f := fun m => decide (stN G (ouB ob) row m ≠ 0)) (k := (n + 1).toNat) (x0 := g) (fun g' => Lk h g' ∧ Look g' G ob n row) (by omega) ⟨F, K⟩ (by
    rintro acc t g1 t0 t1 ha ⟨F1, K1⟩
    obtain ⟨g3, x3, D3, K3⟩ := M_waysOfAll_ok W K1 (d := d - 1) (m := t) (by omega) t0 (by omega) l3
    have hin := orF_in (fun m => decide (stN G (ouB ob) row m ≠ 0)) t.toNat (by omega)
    have hp : 2 ^ t.toNat ≤ 2 ^ 8 := Nat.pow_le_pow_right (by decide) (by omega)
    refine ⟨g3, ?_, F1.tr (Lk.of144 D3), K3⟩
    simp only
    unfold M_heads_L9 M_heads_j35
    rw [if_pos kK_121, K1.2.2.1, if_neg (by omega), x3, ob_some, show w32 (t + 1) = t + 1 by unfold w32; omega]
    simp only [cap_le0]
    congr 3
    show _ = if decide (stN G (ouB ob) row (t.toNat : Int) ≠ 0) then _ else _
    rw [show ((t.toNat : Nat) : Int) = t by omega, ← ha]
    by_cases z : stN G (ouB ob) row t = 0
    · rw [if_pos z, i_or_0 (by omega) (by generalize 2 ^ t.toNat = m at *; omega)]; simp [z]
    · rw [if_neg z]; simp [z]) (by
    rintro acc g1 ⟨F1, K1⟩
    simp only
    unfold M_heads_L9
    rw [if_pos kK_121, K1.2.2.1, if_pos (by omega)])
  refine ⟨g2, ?_, F2⟩
  unfold M_heads
  rw [if_pos kK_121, x, ob_some, x2, ob_some]
/-- trees whose first node is over a span -/
def ovB (G : Gm) (ob : Int) (row : Int → Int) (s i j p q t : Int) : Bool := decide (sp G (ft G t) = s) && !(ouB ob t) && decide (wW G (ouB ob) row 1 (ft G t) i j p q ≠ 0)
theorem M_isOut_ok (B : BM h G ob n row) {t : Int} (t0 : 0 ≤ t) (t1 : t < 8) : M_isOut 121 t h = some (if ouB ob t then 1 else 0) := by
  have o := bm_ob B
  unfold M_isOut
  rw [if_pos kK_121, (bm_X B).2.2.1]
  have := ouB_bit o.1 o.2 t0 t1
  unfold bit at this
  rw [this]
  cases ouB ob t <;> rfl
theorem M_treesOver_ok (B : BM h G ob n row) {d : Nat} (hd : 1952 ≤ d) {i j p q : Int} (i0 : 0 ≤ i) (ij : i ≤ j) (jn : j ≤ n) (hg : (p = -1 ∧ q = -1) ∨ (i ≤ p ∧ p ≤ q ∧ q ≤ j)) : ∃ h', M_treesOver d 121 i j p q h = some (orF (ovB G ob row (if p = -1 then 0 else 1) i j p q) (nT G).toNat, h') ∧ Lk h h' := by
  have W := bm_W B
  have nt := wf_nt W
  obtain ⟨l1, l2, l3, l4⟩ := bm_L B
  obtain ⟨g, x, F, K⟩ := M_look0 B
  obtain ⟨g2, x2, F2, K2⟩ := or_loop (body := fun q' => M_treesOver_L11 d 121 i j p q q'.1 q'.2.1 q'.2.2) (f := ovB G ob row (if p = -1 then 0 else 1) i j p q) (k := (nT G).toNat) (x0 := g) (fun g' => Lk h g' ∧ Look g' G ob n row) (by omega) ⟨F, K⟩ (by
    rintro acc t g1 t0 t1 ha ⟨F1, K1⟩
    have R1 := K1.1
    have B1 := BM_lk B F1
    have r := root_in W t0 (show t < nT G by omega)
    have s01 := (wf_sp W r.1 r.2.1).1
    simp only
    unfold M_treesOver_L11 M_treesOver_j36 M_treesOver_j78
    rw [if_pos kK_121, R1.2.1, if_neg (by omega), M_isGuest_ok R1 W t0 (by omega), ob_some, show w32 (t + 1) = t + 1 by unfold w32; omega]
    have hf : orF (ovB G ob row (if p = -1 then 0 else 1) i j p q) (t.toNat + 1) = if ovB G ob row (if p = -1 then 0 else 1) i j p q t then i_or acc (i_shl 1 t) else acc := by
      show (if ovB G ob row _ i j p q (t.toNat : Int) then _ else _) = _
      rw [show ((t.toNat : Nat) : Int) = t by omega, ← ha]
    rw [hf]
    by_cases hs : sp G (ft G t) = (if p = -1 then 0 else 1)
    · rw [if_pos hs, if_pos kK_121, M_isOut_ok B1 t0 (by omega), ob_some]
      cases ho : ouB ob t
      · have hi : itm G 1 (ft G t) i j p q := by
          refine ⟨Or.inr rfl, r.1, r.2.1, i0, ij, by omega, ?_⟩
          rcases hg with ⟨rfl, rfl⟩ | z
          · rw [if_pos rfl] at hs
            exact Or.inr ⟨hs, rfl, rfl⟩
          · rw [if_neg (by omega)] at hs
            exact Or.inl ⟨hs, z⟩
        obtain ⟨g3, x3, D3, K3⟩ := M_ask W K1 (d := d - 1) (by omega) hi jn
        rw [if_neg (show ¬ false = true by decide), if_pos rfl, M_root_ok R1 W t0 (by omega), ob_some, x3, ob_some]
        refine ⟨g3, ?_, F1.tr (Lk.of144 D3), K3⟩
        simp only [cap_le0]
        unfold ovB
        rw [ho, decide_eq_true hs]
        by_cases z : wW G (ouB ob) row 1 (ft G t) i j p q = 0
        · simp [z]
        · simp [z]
      · rw [if_pos rfl, if_neg (by decide)]
        refine ⟨g1, ?_, F1, K1⟩
        unfold ovB
        rw [ho]
        simp
    · rw [if_neg hs]
      refine ⟨g1, ?_, F1, K1⟩
      unfold ovB
      rw [decide_eq_false hs]
      simp) (by
    rintro acc g1 ⟨F1, K1⟩
    simp only
    unfold M_treesOver_L11
    rw [if_pos kK_121, K1.1.2.1, if_pos (by omega)])
  refine ⟨g2, ?_, F2⟩
  unfold M_treesOver
  rw [if_pos kK_121, x, ob_some, x2, ob_some]
theorem M_isSpan_ok (B : BM h G ob n row) (i j : Int) : M_isSpan 121 i j h = some (if 0 ≤ i ∧ i ≤ j ∧ j ≤ n then 1 else 0) := by
  unfold M_isSpan M_isSpan_j21
  rw [(bm_L B).1, if_pos kK_121]
  by_cases h1 : i < 0
  · rw [if_pos h1, if_neg (by omega)]
  rw [if_neg h1]
  by_cases h2 : j < i
  · rw [if_pos h2, if_neg (by omega)]
  rw [if_neg h2]
  by_cases h3 : n < j
  · rw [if_pos h3, if_neg (by omega)]
  rw [if_neg h3, if_pos ⟨by omega, by omega, by omega⟩]
theorem M_isGap_ok (B : BM h G ob n row) (i j p q : Int) : M_isGap 121 i j p q h = some (if 0 ≤ i ∧ i ≤ p ∧ p ≤ q ∧ q ≤ j ∧ j ≤ n then 1 else 0) := by
  unfold M_isGap M_isGap_j30
  rw [if_pos kK_121, M_isSpan_ok B, ob_some]
  by_cases h0 : 0 ≤ i ∧ i ≤ j ∧ j ≤ n
  · rw [if_pos h0, if_neg (by decide)]
    by_cases h1 : p < i
    · rw [if_pos h1, if_neg (by omega)]
    rw [if_neg h1]
    by_cases h2 : q < p
    · rw [if_pos h2, if_neg (by omega)]
    rw [if_neg h2]
    by_cases h3 : j < q
    · rw [if_pos h3, if_neg (by omega)]
    rw [if_neg h3, if_pos (by omega)]
  · rw [if_neg h0, if_pos rfl, if_neg (by omega)]
theorem M_spans_ok (B : BM h G ob n row) {d : Nat} (hd : 1953 ≤ d) (i j : Int) : ∃ h', M_spans d 121 i j h = some (if 0 ≤ i ∧ i ≤ j ∧ j ≤ n then orF (ovB G ob row 0 i j (-1) (-1)) (nT G).toNat else -2, h') ∧ Lk h h' := by
  unfold M_spans
  rw [if_pos kK_121, M_isSpan_ok B, ob_some]
  by_cases h0 : 0 ≤ i ∧ i ≤ j ∧ j ≤ n
  · rw [if_pos h0, if_neg (by decide), if_pos h0]
    obtain ⟨g, x, F⟩ := M_treesOver_ok B (d := d - 1) (by omega) (p := -1) (q := -1) h0.1 h0.2.1 h0.2.2 (Or.inl ⟨rfl, rfl⟩)
    rw [x, ob_some]
    exact ⟨g, rfl, F⟩
  · rw [if_neg h0, if_pos rfl, if_neg h0]
    exact ⟨h, rfl, Lk.rf⟩
theorem M_around_ok (B : BM h G ob n row) {d : Nat} (hd : 1953 ≤ d) (i j p q : Int) : ∃ h', M_around d 121 i j p q h = some (if 0 ≤ i ∧ i ≤ p ∧ p ≤ q ∧ q ≤ j ∧ j ≤ n then orF (ovB G ob row 1 i j p q) (nT G).toNat else -2, h') ∧ Lk h h' := by
  unfold M_around
  rw [if_pos kK_121, M_isGap_ok B, ob_some]
  by_cases h0 : 0 ≤ i ∧ i ≤ p ∧ p ≤ q ∧ q ≤ j ∧ j ≤ n
  · rw [if_pos h0, if_neg (by decide), if_pos h0]
    obtain ⟨g, x, F⟩ := M_treesOver_ok B (d := d - 1) (by omega) (i := i) (j := j) (p := p) (q := q) h0.1 (by omega) h0.2.2.2.2 (Or.inr ⟨h0.2.1, h0.2.2.1, h0.2.2.2.1⟩)
    rw [if_neg (by omega)] at x
    rw [x, ob_some]
    exact ⟨g, rfl, F⟩
  · rw [if_neg h0, if_pos rfl, if_neg h0]
    exact ⟨h, rfl, Lk.rf⟩
end
