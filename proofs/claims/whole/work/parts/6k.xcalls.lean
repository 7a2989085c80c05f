/-! the class: calls that ask the chart of numbers -/
section
variable {h h' : Hp} {P ob n : Int} {G : Gm} {row : Int → Int}
theorem aHosts_cnt {ou : Int → Bool} (W : WF G) {l i j : Int} (i0 : 0 ≤ i) (ij : i ≤ j) (j8 : j ≤ 8) : aHosts G ou (agC row) (aFix G ou (agC row)) l i j = capN (wHosts G ou (wW G ou row) l i j) := by
  have Q := aFix_AEq (ou := ou) W (agC_law row) 8
  unfold aHosts wHosts
  apply hom_sum (R := fun x n => x = capN n) (agC_law row) (by decide)
  · intro x y m n _ _ hx hy
    subst hx hy
    rw [agC_E]; unfold capN; omega
  · intro t t0 t1
    cases hg : goB G ou t l 0
    · exact ⟨ag_0 (agC_law row), by show (0 : Int) = capN 0; decide⟩
    · have hi := root_item W (i := i) (j := j) t0 (show t < nT G by omega) (goB_spec hg).1 i0 ij j8
      exact ⟨(Q _ _ _ _ _ _ hi j8).1, count_hom W Q hi j8⟩
theorem Ch_atStart_ok {o m : Int} {ou : Int → Bool} (E : Ev h o P G n ou (agC row) vC) (T : Tab h o P G n ou (agC row) (aFix G ou (agC row)) dT) (m0 : 0 ≤ m) (m1 : m ≤ n) : Ch_atStart o m h = some (capN (stN G ou row m)) := by
  have W := E.1
  have R := E.2.1
  have C := E.2.2.1
  have nt := wf_nt W
  have nn := wf_nn W
  have kc := (ChO_k C.1).1
  obtain ⟨g0, g1, g2, g3, g4, g5, g6, g7, g8, g9, g10, g11, g12, g13⟩ := GrO_k R.1
  have e0 : h P 0 = nT G := R.2.2.1
  have e9 : h P 9 = P + 4 := R.2.1.2.2.2.1
  have e17 : h P 17 = P + 12 := R.2.1.2.2.2.2.2.2.2.2.2.2.2.1
  unfold Ch_atStart Gr_hostsAtStart stN
  rw [if_pos kc, C.2.1, if_pos g0, if_pos g0, e0]
  by_cases hz : nT G = 0
  · rw [if_pos hz, if_pos hz, ob_some]
    have : Ch_hostsOver o 0 0 m h = some 0 := by
      unfold Ch_hostsOver
      have : loopN (fun q => Ch_hostsOver_L6 o 0 0 m h q.1 q.2) LN (0, 0) = some 0 := by
        rw [show LN = 999999 + 1 from rfl]
        unfold loopN Ch_hostsOver_L6
        simp only
        rw [if_pos kc, C.2.1, if_pos g0, e0, if_pos (by omega)]
      rw [this, ob_some]
    rw [this, ob_some]; rfl
  · have st := wf_step W (t := 0) (by decide) (by omega)
    have fi := ft_in W (t := 1) (by decide) (by omega)
    have f0 := (wf_ft W).1
    rw [show (0 : Int) + 1 = 1 by decide] at st
    have kr := (wf_root W (t := 0) (by decide) (by omega)).1
    rw [f0] at kr
    have ll := (wf_lb W (n := 0) (by decide) (by omega)).1 (by omega)
    have f4 : h (P + 4) 0 = lb G 0 := (R.2.2.2.2.2.1 0 (by decide) (by omega)).2.2.1
    rw [if_neg hz, if_neg hz, e9, f4, e17, if_pos ⟨g4.1, by decide, by rw [g4.2]; decide⟩, if_pos ⟨g12.1, ll.1, by rw [g12.2]; exact ll.2⟩, ob_some, Ch_hostsOver_ok E (aFix_AEq W (agC_law row) n) T ll.1 ll.2 (by decide) m0 m1 (fun _ _ _ _ => Or.inl rfl), ob_some, aHosts_cnt W (by decide) m0 (by have := C.2.2.2.2.2.2; omega)]
theorem or_loop2 {body : Int × Int → Option ((Int × Int) ⊕ Int)} {f : Int → Bool} {k : Nat} (hk : k < 31)
    (step : ∀ (acc t : Int), 0 ≤ t → t < k → acc = orF f t.toNat → body (acc, t) = some (.inl (orF f (t.toNat + 1), t + 1)))
    (exit : ∀ (acc : Int), body (acc, (k : Int)) = some (.inr acc)) : loopN body LN (0, 0) = some (orF f k) := by
  obtain ⟨r, e, p1⟩ := loop_ok (body := body) (fun s => 0 ≤ s.2 ∧ s.2 ≤ k ∧ s.1 = orF f s.2.toNat) (fun s => (k - s.2).toNat) (fun r => r = orF f k) (by
    rintro ⟨acc, t⟩ ⟨t0, t1, ha⟩
    simp only at t0 t1 ha
    by_cases ht : t < k
    · left
      refine ⟨_, step acc t t0 ht ha, ⟨by simp only; omega, by simp only; omega, ?_⟩, by simp only; omega⟩
      simp only
      rw [show (t + 1).toNat = t.toNat + 1 by omega]
    · right
      have : t = k := by omega
      subst this
      exact ⟨_, exit acc, by rw [ha, Int.toNat_natCast]⟩) LN (0, 0) ⟨by simp only; omega, by simp only; omega, rfl⟩ (by unfold LN; simp only; omega)
  rw [e, p1]
theorem Ch_rootsOver_ok {bits s i j p q : Int} (B : BX h P G ob n row) (C : CntOK h P G ob n row) (i0 : 0 ≤ i) (ij : i ≤ j) (jn : j ≤ n) (hg : (s = 0 ∧ p = -1 ∧ q = -1) ∨ (s = 1 ∧ i ≤ p ∧ p ≤ q ∧ q ≤ j)) (hb : ∀ t, 0 ≤ t → t < 8 → bit bits t = if t < nT G ∧ sp G (ft G t) = s then 1 else 0) : Ch_rootsOver 21 bits i j (cc p j) (cc q j) h = some (orF (ovB G ob row s i j p q) (nT G).toNat) := by
  have E := Ev_cnt B C
  have W := E.1
  have R := E.2.1
  have CS := E.2.2.1
  have nt := wf_nt W
  have nn := bx_n B
  obtain ⟨g0, g1, -⟩ := GrO_k R.1
  have e0 : h P 0 = nT G := R.2.2.1
  have e6 : h P 6 = P + 1 := R.2.1.1
  unfold Ch_rootsOver
  rw [or_loop2 (f := ovB G ob row s i j p q) (k := (nT G).toNat) (by omega) ?_ ?_, ob_some]
  · intro acc t t0 t1 ha
    have hbt := hb t t0 (by omega)
    unfold bit at hbt
    have r := root_in W t0 (show t < nT G by omega)
    have hft : h (P + 1) t = ft G t := R.2.2.2.2.1 t t0 (by omega)
    have hf : orF (ovB G ob row s i j p q) (t.toNat + 1) = if ovB G ob row s i j p q t then i_or acc (i_shl 1 t) else acc := by
      show (if ovB G ob row _ i j p q (t.toNat : Int) then _ else _) = _
      rw [show ((t.toNat : Nat) : Int) = t by omega, ← ha]
    simp only
    unfold Ch_rootsOver_L6 Ch_rootsOver_j63
    rw [if_pos (by decide), C.1, if_pos g0, e0, if_neg (by omega), e6, hft, show w32 (t + 1) = t + 1 by unfold w32; omega, hf]
    by_cases hs : sp G (ft G t) = s
    · rw [if_pos ⟨by omega, hs⟩] at hbt
      rw [if_pos hbt, if_pos ⟨g1.1, t0, by rw [g1.2]; omega⟩]
      have hi : itm G 1 (ft G t) i j p q := by
        refine ⟨Or.inr rfl, r.1, r.2.1, i0, ij, by omega, ?_⟩
        rcases hg with ⟨rfl, rfl, rfl⟩ | ⟨rfl, z⟩
        · exact Or.inr ⟨hs, rfl, rfl⟩
        · exact Or.inl ⟨hs, z⟩
      rw [val_item E C.2.2.2.2 hi jn, ob_some]
      have hv : tY G (ouB ob) (aFix G (ouB ob) (agC row)) dT 1 (ft G t) i j p q = 0 ↔ ¬ ovB G ob row s i j p q t = true := by
        unfold tY ovB
        rw [r.2.2, decide_eq_true hs]
        cases ho : ouB ob t
        · rw [if_pos ⟨rfl, rfl⟩, count_hom W (aFix_AEq W (agC_law row) n) hi jn, capN_0]
          simp
        · simp
      by_cases hz : ovB G ob row s i j p q t = true
      · rw [if_neg (fun z => (hv.mp z) hz), if_pos hz]
      · rw [if_pos (hv.mpr hz), if_neg hz]
    · rw [if_neg (fun z => hs z.2)] at hbt
      rw [if_neg (by omega)]
      unfold ovB
      rw [decide_eq_false hs]
      simp
  · intro acc
    simp only
    unfold Ch_rootsOver_L6
    rw [if_pos (by decide), C.1, if_pos g0, e0, if_pos (by omega)]
theorem X_isSpan_ok (B : BX h P G ob n row) (i j : Int) : X_isSpan 0 i j h = some (if 0 ≤ i ∧ i ≤ j ∧ j ≤ n then 1 else 0) := by
  unfold X_isSpan X_isSpan_j25
  rw [if_pos (show kK 0 = 10 by decide), sx_at (bx_sx B) (show (0, 2, 5) ∈ shX by decide), if_pos (show kK 5 = 0 by decide), (bx_n B).1]
  by_cases h1 : i < 0
  · rw [if_pos h1, if_neg (by omega)]
  rw [if_neg h1]
  by_cases h2 : j < i
  · rw [if_pos h2, if_neg (by omega)]
  rw [if_neg h2]
  by_cases h3 : n < j
  · rw [if_pos h3, if_neg (by omega)]
  rw [if_neg h3, if_pos ⟨by omega, by omega, by omega⟩]
theorem X_isGap_ok (B : BX h P G ob n row) (i j p q : Int) : X_isGap 0 i j p q h = some (if 0 ≤ i ∧ i ≤ p ∧ p ≤ q ∧ q ≤ j ∧ j ≤ n then 1 else 0) := by
  unfold X_isGap X_isGap_j30
  rw [if_pos (by decide), X_isSpan_ok B, ob_some]
  by_cases h0 : 0 ≤ i ∧ i ≤ j ∧ j ≤ n
  · rw [if_pos h0, if_neg (by decide)]
    by_cases h1 : p < i
    · rw [if_pos h1, if_neg (by omega)]
    rw [if_neg h1]
    by_cases h2 : q < p
    · rw [if_pos h2, if_neg (by omega)]
    rw [if_neg h2]
    by_cases h3 : j < q
    · rw [if_pos h3, if_neg (by omega)]
    rw [if_neg h3, if_pos (by omega)]
  · rw [if_neg h0, if_pos rfl, if_neg (by omega)]
/-- the chart of numbers as it is between calls -/
def KC (h : Hp) (P : Int) (G : Gm) (ob n : Int) (row : Int → Int) : Prop := 0 ≤ h 0 17 ∧ h 0 17 < 512 ∧ (bit (h 0 17) 6 = 1 → CntOK h P G ob n row)
/-- a call that asks it -/
def CnC (h h' : Hp) (P : Int) (G : Gm) (ob n : Int) (row : Int → Int) : Prop := h' = h ∨ (CnF h h' ∧ CntOK h' P G ob n row)
theorem know (B : BX h P G ob n row) (K : KC h P G ob n row) : ∃ h', X_knowCounts 0 h = some h' ∧ CnF h h' ∧ CntOK h' P G ob n row ∧ BX h' P G ob n row := by
  obtain ⟨g, e, F, C⟩ := X_knowCounts_ok B K.1 K.2.1 K.2.2
  exact ⟨g, e, F, C, BX_vol F.vol B⟩
theorem X_spans_ok (B : BX h P G ob n row) (K : KC h P G ob n row) (i j : Int) : ∃ h', X_spans 0 i j h = some (if 0 ≤ i ∧ i ≤ j ∧ j ≤ n then orF (ovB G ob row 0 i j (-1) (-1)) (nT G).toNat else -2, h') ∧ CnC h h' P G ob n row := by
  unfold X_spans
  rw [if_pos (by decide), X_isSpan_ok B, ob_some]
  by_cases h0 : 0 ≤ i ∧ i ≤ j ∧ j ≤ n
  · obtain ⟨g, e, F, C, B1⟩ := know B K
    have S1 := bx_sx B1
    rw [if_pos h0, if_neg (by decide), if_pos h0, e, ob_some, bx_15 B1, if_pos (bx_kP B1), sx_at S1 (show (0, 8, 21) ∈ shX by decide), if_pos (by decide)]
    have := Ch_rootsOver_ok B1 C (bits := g P 2) (s := 0) (p := -1) (q := -1) h0.1 h0.2.1 h0.2.2 (Or.inl ⟨rfl, rfl, rfl⟩) (fun t t0 t1 => (B1.2.1.2.2.2.2.2.2.2.2.1.2.2 t t0 t1).1)
    rw [cc_no] at this
    rw [this, ob_some]
    exact ⟨g, rfl, Or.inr ⟨F, C⟩⟩
  · rw [if_neg h0, if_pos rfl, if_neg h0]
    exact ⟨h, rfl, Or.inl rfl⟩
theorem X_around_ok (B : BX h P G ob n row) (K : KC h P G ob n row) (i j p q : Int) : ∃ h', X_around 0 i j p q h = some (if 0 ≤ i ∧ i ≤ p ∧ p ≤ q ∧ q ≤ j ∧ j ≤ n then orF (ovB G ob row 1 i j p q) (nT G).toNat else -2, h') ∧ CnC h h' P G ob n row := by
  unfold X_around
  rw [if_pos (by decide), X_isGap_ok B, ob_some]
  by_cases h0 : 0 ≤ i ∧ i ≤ p ∧ p ≤ q ∧ q ≤ j ∧ j ≤ n
  · obtain ⟨g, e, F, C, B1⟩ := know B K
    have S1 := bx_sx B1
    rw [if_pos h0, if_neg (by decide), if_pos h0, e, ob_some, bx_15 B1, if_pos (bx_kP B1), sx_at S1 (show (0, 8, 21) ∈ shX by decide), if_pos (by decide)]
    have := Ch_rootsOver_ok B1 C (bits := g P 3) (s := 1) (i := i) (j := j) (p := p) (q := q) h0.1 (by omega) h0.2.2.2.2 (Or.inr ⟨rfl, h0.2.1, h0.2.2.1, h0.2.2.2.1⟩) (fun t t0 t1 => (B1.2.1.2.2.2.2.2.2.2.2.1.2.2 t t0 t1).2)
    rw [cc_yes _ (by omega), cc_yes _ (by omega)] at this
    rw [this, ob_some]
    exact ⟨g, rfl, Or.inr ⟨F, C⟩⟩
  · rw [if_neg h0, if_pos rfl, if_neg h0]
    exact ⟨h, rfl, Or.inl rfl⟩
theorem X_countedWays_ok (B : BX h P G ob n row) (K : KC h P G ob n row) : ∃ h', X_countedWays 0 h = some (capN (stN G (ouB ob) row n), h') ∧ CnF h h' ∧ CntOK h' P G ob n row := by
  obtain ⟨g, e, F, C, B1⟩ := know B K
  have S1 := bx_sx B1
  have nn := bx_n B1
  refine ⟨g, ?_, F, C⟩
  unfold X_countedWays
  rw [if_pos (by decide), e, ob_some, sx_at S1 (show (0, 2, 5) ∈ shX by decide), if_pos (by decide), sx_at S1 (show (0, 8, 21) ∈ shX by decide), if_pos (by decide), nn.1, Ch_atStart_ok (Ev_cnt B1 C) C.2.2.2.2 nn.2.1 (Int.le_refl _), ob_some]
theorem X_reads_ok (B : BX h P G ob n row) (K : KC h P G ob n row) : ∃ h', X_reads 0 h = some (if stN G (ouB ob) row n = 0 then 0 else 1, h') ∧ CnC h h' P G ob n row := by
  obtain ⟨g, e, F, C⟩ := X_countedWays_ok B K
  refine ⟨g, ?_, Or.inr ⟨F, C⟩⟩
  unfold X_reads
  rw [if_pos (by decide), e, ob_some]
  simp only [capN_0]
theorem X_ways_ok (B : BX h P G ob n row) (K : KC h P G ob n row) : ∃ h', X_ways 0 h = some (shw (capN (stN G (ouB ob) row n)), h') ∧ CnC h h' P G ob n row := by
  obtain ⟨g, e, F, C⟩ := X_countedWays_ok B K
  refine ⟨g, ?_, Or.inr ⟨F, C⟩⟩
  unfold X_ways X_shown
  rw [if_pos (by decide), e, ob_some]
  rfl
theorem X_heads_ok (B : BX h P G ob n row) (K : KC h P G ob n row) : ∃ h', X_heads 0 h = some (orF (fun m => decide (stN G (ouB ob) row m ≠ 0)) (n + 1).toNat, h') ∧ CnC h h' P G ob n row := by
  obtain ⟨g, e, F, C, B1⟩ := know B K
  have S1 := bx_sx B1
  have nn := bx_n B1
  refine ⟨g, ?_, Or.inr ⟨F, C⟩⟩
  unfold X_heads
  rw [if_pos (by decide), e, ob_some, or_loop2 (f := fun m => decide (stN G (ouB ob) row m ≠ 0)) (k := (n + 1).toNat) (by omega) ?_ ?_, ob_some]
  · intro acc t t0 t1 ha
    simp only
    unfold X_heads_L8 X_heads_j38
    rw [if_pos (by decide), sx_at S1 (show (0, 2, 5) ∈ shX by decide), if_pos (by decide), nn.1, if_neg (by omega), sx_at S1 (show (0, 8, 21) ∈ shX by decide), if_pos (by decide), Ch_atStart_ok (Ev_cnt B1 C) C.2.2.2.2 t0 (by omega), ob_some, show w32 (t + 1) = t + 1 by unfold w32; omega]
    simp only [capN_0]
    congr 3
    show _ = if decide (stN G (ouB ob) row (t.toNat : Int) ≠ 0) then _ else _
    rw [show ((t.toNat : Nat) : Int) = t by omega, ← ha]
    by_cases z : stN G (ouB ob) row t = 0
    · simp [z]
    · simp [z]
  · intro acc
    simp only
    unfold X_heads_L8
    rw [if_pos (by decide), sx_at S1 (show (0, 2, 5) ∈ shX by decide), if_pos (by decide), nn.1, if_pos (by omega)]
theorem Gr_hasTree_ok (B : BX h P G ob n row) (t : Int) : Gr_hasTree P t h = some (if 0 ≤ t ∧ t < nT G then 1 else 0) := by
  have e0 : h P 0 = nT G := (bx_R B).2.2.1
  unfold Gr_hasTree Gr_hasTree_j16
  rw [if_pos (bx_kP B), e0]
  by_cases h1 : t < 0
  · rw [if_pos h1, if_neg (by omega)]
  rw [if_neg h1]
  by_cases h2 : nT G ≤ t
  · rw [if_pos h2, if_neg (by omega)]
  rw [if_neg h2, if_pos ⟨by omega, by omega⟩]
theorem X_without_ok (B : BX h P G ob n row) (t : Int) : ∃ h', X_without 0 t h = some (if 0 ≤ t ∧ t < nT G then shw (capN (stN G (ouB (i_or ob (i_shl 1 t))) row n)) else -2, h') ∧ ChF 38 h h' := by
  have S := bx_sx B
  have o := bx_ob B
  have nn := bx_n B
  have nt := wf_nt (bx_W B)
  unfold X_without
  rw [if_pos (by decide), bx_15 B, if_pos (bx_kP B), Gr_hasTree_ok B, ob_some]
  by_cases h0 : 0 ≤ t ∧ t < nT G
  · have ob1 := or1_in (x := ob) (t := t) (n := 8) o.2.1 (by decide) (by decide) (by rw [show (((2 ^ (8 : Int).toNat : Nat)) : Int) = 256 by decide]; omega) (by omega) (by omega)
    rw [show (((2 ^ (8 : Int).toNat : Nat)) : Int) = 256 by decide] at ob1
    obtain ⟨g, e, F, q, E, T⟩ := fillC B (o := 38) (b := i_or ob (i_shl 1 t)) (Or.inr rfl) ob1.1 ob1.2
    have S1 := ShX_vol (F.vol (Or.inr rfl)) S
    rw [if_pos h0, if_neg (by decide), if_pos h0, sx_at S (show (0, 2, 5) ∈ shX by decide), if_pos (by decide), sx_at S (show (0, 9, 38) ∈ shX by decide), if_pos (by decide), o.1, nn.1, sx_at S (show (0, 5, 16) ∈ shX by decide), e, ob_some, sx_at S1 (show (0, 2, 5) ∈ shX by decide), if_pos (by decide), sx_at S1 (show (0, 9, 38) ∈ shX by decide), if_pos (by decide), show g 5 1 = n by rw [F 5 1 (by decide) (by decide) (by decide)]; exact nn.1, Ch_atStart_ok E T nn.2.1 (Int.le_refl _), ob_some]
    exact ⟨g, rfl, F⟩
  · rw [if_neg h0, if_pos rfl, if_neg h0]
    exact ⟨h, rfl, fun _ _ _ _ _ => rfl⟩
end
