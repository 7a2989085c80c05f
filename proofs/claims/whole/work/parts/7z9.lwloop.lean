/-! the law's loop (by program) -/
section
variable {sc : Int → Int} {L l3 : Int} {h : Hp}
theorem lw_end (w8 : w32 (l3 + 8) = l3 + 8) (I : Inv h) : ∃ h', Lw_j1356 2048 sc L (-5) 0 121 l3 h = some (.inl (l3 + 8, h')) ∧ Inv h' := ⟨h, by unfold Lw_j1356; rw [w8], I⟩
theorem lw_two {x : Option (Int × Hp)} {m : Hp → Option (Int × Hp)} (w8 : w32 (l3 + 8) = l3 + 8) (B : Bth x m) : ∃ h', ob x (fun r1 => if kK 121 = 11 then ob (m r1.2) (fun r2 => if r1.1 = r2.1 then Lw_j1356 2048 sc L (-5) 0 121 l3 r2.2 else none) else none) = some (.inl (l3 + 8, h')) ∧ Inv h' := by
  obtain ⟨v, h1, h2, e1, e2, I⟩ := B
  rw [e1, ob_some, if_pos kK_121]
  show ∃ h', ob (m h1) (fun r2 => if v = r2.1 then Lw_j1356 2048 sc L (-5) 0 121 l3 r2.2 else none) = some (.inl (l3 + 8, h')) ∧ Inv h'
  rw [e2, ob_some]
  show ∃ h', (if v = v then Lw_j1356 2048 sc L (-5) 0 121 l3 h2 else none) = some (.inl (l3 + 8, h')) ∧ Inv h'
  rw [if_pos rfl]
  exact lw_end w8 I
theorem lw_one {x m : Option Int} (w8 : w32 (l3 + 8) = l3 + 8) (I : Inv h) (A : Ask x m) : ∃ h', ob x (fun r1 => if kK 121 = 11 then ob m (fun r2 => if r1 = r2 then Lw_j1356 2048 sc L (-5) 0 121 l3 h else none) else none) = some (.inl (l3 + 8, h')) ∧ Inv h' := by
  obtain ⟨v, e1, e2⟩ := A
  rw [e1, ob_some, if_pos kK_121, e2, ob_some, if_pos rfl]
  exact lw_end w8 I
set_option maxHeartbeats 4000000 in
theorem lw_step (hs : ∀ i, r32 (sc i)) (I : Inv h) (l0 : 0 ≤ l3) (l1 : l3 ≤ L - 8) (hL : L ≤ 4096) : ∃ h', Lw_L18 2048 sc L (-5) 0 121 l3 h = some (.inl (l3 + 8, h')) ∧ Inv h' := by
  have w8 : w32 (l3 + 8) = l3 + 8 := by unfold w32; omega
  have g1 : (0 : Int) ≤ w32 (l3 + 1) ∧ w32 (l3 + 1) < L := by rw [show w32 (l3 + 1) = l3 + 1 by unfold w32; omega]; omega
  have g2 : (0 : Int) ≤ w32 (l3 + 2) ∧ w32 (l3 + 2) < L := by rw [show w32 (l3 + 2) = l3 + 2 by unfold w32; omega]; omega
  have g3 : (0 : Int) ≤ w32 (l3 + 3) ∧ w32 (l3 + 3) < L := by rw [show w32 (l3 + 3) = l3 + 3 by unfold w32; omega]; omega
  have g4 : (0 : Int) ≤ w32 (l3 + 4) ∧ w32 (l3 + 4) < L := by rw [show w32 (l3 + 4) = l3 + 4 by unfold w32; omega]; omega
  have g5 : (0 : Int) ≤ w32 (l3 + 5) ∧ w32 (l3 + 5) < L := by rw [show w32 (l3 + 5) = l3 + 5 by unfold w32; omega]; omega
  have g6 : (0 : Int) ≤ w32 (l3 + 6) ∧ w32 (l3 + 6) < L := by rw [show w32 (l3 + 6) = l3 + 6 by unfold w32; omega]; omega
  have g7 : (0 : Int) ≤ w32 (l3 + 7) ∧ w32 (l3 + 7) < L := by rw [show w32 (l3 + 7) = l3 + 7 by unfold w32; omega]; omega
  have k0 : kK 0 = 10 := by decide
  have hd : 1960 ≤ 2048 - 1 := by decide
  unfold Lw_L18
  rw [if_pos rfl, show w32 (L - 8) = L - 8 by unfold w32; omega, if_neg (by omega), if_pos ⟨l0, by omega⟩]
  by_cases q0 : i_and (sc l3) 63 = 0
  · rw [if_pos q0, if_pos g1, if_pos g2, if_pos g3, if_pos g4, if_pos g5, if_pos k0]
    exact lw_two w8 (k_feed I (hs _) (hs _) (hs _) (hs _) (hs _))
  rw [if_neg q0]
  by_cases q1 : i_and (sc l3) 63 = 1
  · rw [if_pos q1, if_pos g1, if_pos k0]
    exact lw_two w8 (k_end I _)
  rw [if_neg q1]
  by_cases q2 : i_and (sc l3) 63 = 2
  · rw [if_pos q2, if_pos k0]
    exact lw_two w8 (k_grammar I hd)
  rw [if_neg q2]
  by_cases q3 : i_and (sc l3) 63 = 3
  · rw [if_pos q3, if_pos g1, if_pos k0]
    exact lw_one w8 I (k_fault I _)
  rw [if_neg q3]
  by_cases q4 : i_and (sc l3) 63 = 4
  · rw [if_pos q4, if_pos k0]
    exact lw_two w8 (k_say I)
  rw [if_neg q4]
  by_cases q5 : i_and (sc l3) 63 = 5
  · rw [if_pos q5, if_pos g1, if_pos k0]
    exact lw_one w8 I (k_count I _)
  rw [if_neg q5]
  by_cases q6 : i_and (sc l3) 63 = 6
  · rw [if_pos q6, if_pos g1, if_pos g2, if_pos k0]
    exact lw_one w8 I (k_tree I _ _)
  rw [if_neg q6]
  by_cases q7 : i_and (sc l3) 63 = 7
  · rw [if_pos q7, if_pos g1, if_pos g2, if_pos g3, if_pos k0]
    exact lw_one w8 I (k_node I _ _ _)
  rw [if_neg q7]
  by_cases q8 : i_and (sc l3) 63 = 8
  · rw [if_pos q8, if_pos g1, if_pos g2, if_pos k0]
    exact lw_two w8 (k_out I _ _)
  rw [if_neg q8]
  by_cases q9 : i_and (sc l3) 63 = 9
  · rw [if_pos q9, if_pos g1, if_pos g2, if_pos g3, if_pos k0]
    exact lw_two w8 (k_marks I _ _ _)
  rw [if_neg q9]
  by_cases q10 : i_and (sc l3) 63 = 10
  · rw [if_pos q10, if_pos g1, if_pos g2, if_pos g3, if_pos g4, if_pos g5, if_pos g6, if_pos g7, if_pos k0]
    exact lw_two w8 (k_over I hd _ _ _ _ _ _ _)
  rw [if_neg q10]
  by_cases q11 : i_and (sc l3) 63 = 11
  · rw [if_pos q11, if_pos g1, if_pos k0]
    exact lw_two w8 (k_items I hd _)
  rw [if_neg q11]
  by_cases q12 : i_and (sc l3) 63 = 12
  · rw [if_pos q12, if_pos g1, if_pos g2, if_pos k0]
    exact lw_two w8 (k_spans I hd _ _)
  rw [if_neg q12]
  by_cases q13 : i_and (sc l3) 63 = 13
  · rw [if_pos q13, if_pos g1, if_pos g2, if_pos g3, if_pos g4, if_pos k0]
    exact lw_two w8 (k_around I hd _ _ _ _)
  rw [if_neg q13]
  by_cases q14 : i_and (sc l3) 63 = 14
  · rw [if_pos q14, if_pos k0]
    exact lw_two w8 (k_reads I hd)
  rw [if_neg q14]
  by_cases q15 : i_and (sc l3) 63 = 15
  · rw [if_pos q15, if_pos k0]
    exact lw_two w8 (k_heads I hd)
  rw [if_neg q15]
  by_cases q16 : i_and (sc l3) 63 = 16
  · rw [if_pos q16, if_pos k0]
    exact lw_two w8 (k_ways I hd)
  rw [if_neg q16]
  by_cases q17 : i_and (sc l3) 63 = 17
  · rw [if_pos q17, if_pos g1, if_pos k0]
    exact lw_two w8 (k_without I hd _)
  rw [if_neg q17]
  by_cases q18 : i_and (sc l3) 63 = 18
  · rw [if_pos q18, if_pos g1, if_pos k0]
    exact lw_two w8 (k_lengths I hd _)
  rw [if_neg q18]
  by_cases q19 : i_and (sc l3) 63 = 19
  · rw [if_pos q19, if_pos g1, if_pos g2, if_pos k0]
    exact lw_two w8 (k_steps I hd _)
  rw [if_neg q19]
  by_cases q20 : i_and (sc l3) 63 = 20
  · rw [if_pos q20, if_pos g1, if_pos g2, if_pos g3, if_pos g4, if_pos k0]
    exact lw_two w8 (k_step I hd _ _ _)
  rw [if_neg q20]
  by_cases q21 : i_and (sc l3) 63 = 21
  · rw [if_pos q21, if_pos g1, if_pos g2, if_pos g3, if_pos g4, if_pos k0]
    exact lw_two w8 (k_whose I hd _ _ _)
  rw [if_neg q21]
  by_cases q22 : i_and (sc l3) 63 = 22
  · rw [if_pos q22, if_pos g1, if_pos g2, if_pos g3, if_pos k0]
    exact lw_two w8 (k_arcs I hd _ _)
  rw [if_neg q22]
  by_cases q23 : i_and (sc l3) 63 = 23
  · rw [if_pos q23, if_pos g1, if_pos g2, if_pos g3, if_pos k0]
    exact lw_two w8 (k_grown I hd (by decide) _ _)
  rw [if_neg q23]
  by_cases q24 : i_and (sc l3) 63 = 24
  · rw [if_pos q24, if_pos g1, if_pos g2, if_pos k0]
    exact lw_two w8 (k_tell I hd _)
  rw [if_neg q24]
  by_cases q25 : i_and (sc l3) 63 = 25
  · rw [if_pos q25, if_pos g1, if_pos g2, if_pos k0]
    exact lw_two w8 (k_tellWay I hd _)
  rw [if_neg q25]
  by_cases q26 : i_and (sc l3) 63 = 26
  · rw [if_pos q26, if_pos g1, if_pos k0]
    exact lw_one w8 I (k_octet I _)
  rw [if_neg q26]
  by_cases q27 : i_and (sc l3) 63 = 27
  · rw [if_pos q27, if_pos k0]
    exact lw_two w8 (k_test I hd)
  rw [if_neg q27]
  by_cases q28 : i_and (sc l3) 63 = 28
  · rw [if_pos q28, if_pos k0]
    exact lw_two w8 (k_mends I hd)
  rw [if_neg q28]
  by_cases q29 : i_and (sc l3) 63 = 29
  · rw [if_pos q29, if_pos g1, if_pos k0]
    exact lw_two w8 (k_mend I hd _)
  rw [if_neg q29]
  by_cases q30 : i_and (sc l3) 63 = 30
  · rw [if_pos q30, if_pos g1, if_pos k0]
    exact lw_two w8 (k_sentences I hd _)
  rw [if_neg q30]
  by_cases q31 : i_and (sc l3) 63 = 31
  · rw [if_pos q31, if_pos g1, if_pos g2, if_pos k0]
    exact lw_two w8 (k_sentence I hd _ _)
  rw [if_neg q31]
  by_cases q32 : i_and (sc l3) 63 = 32
  · rw [if_pos q32, if_pos g1, if_pos k0]
    exact lw_two w8 (k_used I hd _)
  rw [if_neg q32]
  exact lw_end w8 I
end
