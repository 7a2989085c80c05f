section MW4
variable {h : Hp} {G : Gm} {ou : Int → Bool} {row : Int → Int} {B : Int} {e : Nat}
theorem above_ok (W : WF G) (he : 2 ≤ e) (Hw0 : SpecW (M_waysOf_G (e + 1) 0) G ou row (B + 1)) (Hw : SpecW (M_waysOf_G e 0) G ou row B) {node i j p q : Int} (hi : itm G 1 node i j p q) (hk : kd G node = 0) (hB : fr G 1 node i j p q ≤ B + 3) (Rp : RepM h G ou row) (hM : Memo h G ou row) :
    Got (M_waysOf_G (e + 1 + 1) 1 [121, node, i, j, p, q] h) h G ou row (wAbove G ou (wW G ou row) node i j p q) := by
  show Got (if 2 ≤ e + 1 then M_waysAbove_b (M_waysOf_G (e + 1)) (e + 1) 121 node i j p q h else none) h G ou row _
  rw [if_pos (by omega)]
  have n0 := hi.2.1
  have n1 := hi.2.2.1
  have hn := wf_nn W
  have ht := wf_nt W
  have hmk := wf_mk W n0 n1
  have f7 : h 121 7 = 125 := ms_at Rp.1 (by decide)
  have r := (Rp.2.2.2.2.1 node n0 n1).2.2.1
  obtain ⟨-, -, -, i0, ij, j8, dd⟩ := id hi
  -- the loops
  have loops : ∀ (A : Nat) (h0 : Hp), D144 h h0 → Memo h0 G ou row → Got (M_waysAbove_j26 (M_waysOf_G (e + 1)) (e + 1) 121 node i j p q (capN A) h0) h0 G ou row (A + (if mk G node = 1 then 0 else sI (fun t => if goB G ou t (lb G node) 1 then sI (fun a => sI (fun b => wAround G (wW G ou row) node t a b i j p q) (if p = -1 then a else q) j) i (if p = -1 then j else p) else 0) 0 (nT G - 1))) := by
    intro A h0 d0 m0
    unfold M_waysAbove_j26
    by_cases hm1 : mk G node = 1
    · have : loopN (fun q' => M_waysAbove_L31 (M_waysOf_G (e + 1)) (e + 1) 121 node i j p q q'.1 q'.2.1 q'.2.2) LN (capN A, 0, h0) = some (capN A, h0) := by
        have Rp0 := RepM_144 Rp d0
        have g7 : h0 121 7 = 125 := ms_at Rp0.1 (by decide)
        have gm := (Rp0.2.2.2.2.1 node n0 n1).2.2.1
        have hb : M_waysAbove_L31 (M_waysOf_G (e + 1)) (e + 1) 121 node i j p q (capN A) 0 h0 = some (.inr (capN A, h0)) := by
          unfold M_waysAbove_L31
          rw [if_pos kK_121, g7, gm, Rp0.2.1]
          by_cases hz : nT G ≤ 0
          · rw [if_pos hz]
          · rw [if_neg hz, if_pos ⟨kK_125, n0, by rw [kL_125]; omega⟩, if_pos hm1]
        show loopN _ (999999 + 1) _ = _
        unfold loopN
        simp only [hb]
      rw [this, ob_some, if_pos hm1, Nat.add_zero]
      exact ⟨h0, rfl, D144.rf, m0⟩
    · rw [if_neg hm1]
      have hl : Got (loopN (fun q' => M_waysAbove_L31 (M_waysOf_G (e + 1)) (e + 1) 121 node i j p q q'.1 q'.2.1 q'.2.2) LN (capN A, 0, h0)) h0 G ou row (A + sI (fun t => if goB G ou t (lb G node) 1 then sI (fun a => sI (fun b => wAround G (wW G ou row) node t a b i j p q) (if p = -1 then a else q) j) i (if p = -1 then j else p) else 0) 0 (nT G - 1)) := by
        refine acc_loop m0 (by omega) (by omega) ?_ ?_
        · intro acc t h1 t0 t1 d1 m1
          have Rp1 := RepM_144 Rp (d0.tr d1)
          have g7 : h1 121 7 = 125 := ms_at Rp1.1 (by decide)
          have g6 : h1 121 6 = 124 := ms_at Rp1.1 (by decide)
          have gr := Rp1.2.2.2.2.1 node n0 n1
          show ∃ h2, M_waysAbove_L31 (M_waysOf_G (e + 1)) (e + 1) 121 node i j p q (capN acc) t h1 = _ ∧ _
          unfold M_waysAbove_L31 M_waysAbove_j146
          rw [if_pos kK_121, Rp1.2.1, if_neg (by omega), g7, gr.2.2.1, if_pos ⟨kK_125, n0, by rw [kL_125]; omega⟩, if_neg hm1, g6, gr.2.1, if_pos ⟨kK_124, n0, by rw [kL_124]; omega⟩, M_mayGo_ok Rp1 W t0 (by omega), ob_some, w32_id (show -2147483648 ≤ t + 1 by omega) (by omega)]
          by_cases hg : goB G ou t (lb G node) 1 = true
          · have hs := (goB_spec hg).1
            unfold Bo
            rw [if_pos hg, if_neg (by decide)]
            have hl2 : Got (loopN (fun q' => M_waysAbove_L72 (M_waysOf_G (e + 1)) (e + 1) 121 node i j p q t q'.1 q'.2.1 q'.2.2) LN (capN acc, i, h1)) h1 G ou row (acc + sI (fun a => sI (fun b => wAround G (wW G ou row) node t a b i j p q) (if p = -1 then a else q) j) i (if p = -1 then j else p)) := by
              refine acc_loop m1 (by split <;> omega) (by split <;> omega) ?_ ?_
              · intro acc2 a h2 a0 a1 d2 m2
                show ∃ h3, M_waysAbove_L72 (M_waysOf_G (e + 1)) (e + 1) 121 node i j p q t (capN acc2) a h2 = _ ∧ _
                unfold M_waysAbove_L72 M_waysAbove_j86 M_waysAbove_j102
                rw [if_neg (by omega)]
                have hl3 : Got (loopN (fun q' => M_waysAbove_L104 (M_waysOf_G (e + 1)) (e + 1) 121 node i j p q t a q'.1 q'.2.1 q'.2.2) LN (capN acc2, (if p = -1 then a else q), h2)) h2 G ou row (acc2 + sI (fun b => wAround G (wW G ou row) node t a b i j p q) (if p = -1 then a else q) j) := by
                  have hb0 : (if p = -1 then a else q) ≤ j := by
                    split
                    · rename_i hp1; rw [if_pos hp1] at a1; exact a1
                    · omega
                  have hb1 : 0 ≤ (if p = -1 then a else q) := by split <;> omega
                  refine acc_loop m2 (by omega) (by omega) ?_ ?_
                  · intro acc3 b h3 b0 b1 d3 m3
                    have Rp3 := RepM_144 Rp (((d0.tr d1).tr d2).tr d3)
                    show ∃ h4, M_waysAbove_L104 (M_waysOf_G (e + 1)) (e + 1) 121 node i j p q t a (capN acc3) b h3 = _ ∧ _
                    unfold M_waysAbove_L104
                    rw [if_neg (by omega), if_pos kK_121]
                    obtain ⟨h4, x4, d4, m4⟩ := around_ok W he Hw hi t0 (by omega) hs a0 a1 b0 b1 (by omega) Rp3 m3
                    rw [x4, ob_some, M_sum_ok, ob_some, w32_id (by omega) (by omega)]
                    exact ⟨h4, rfl, d3.tr d4, m4⟩
                  · intro acc3 h3 d3 m3
                    show M_waysAbove_L104 (M_waysOf_G (e + 1)) (e + 1) 121 node i j p q t a (capN acc3) (j + 1) h3 = _
                    unfold M_waysAbove_L104
                    rw [if_pos (by omega)]
                obtain ⟨h3, x3, d3, m3⟩ := hl3
                rw [x3, ob_some, w32_id (show -2147483648 ≤ a + 1 by omega) (by have : a ≤ 8 := (by split at a1 <;> omega); omega)]
                exact ⟨h3, rfl, d2.tr d3, m3⟩
              · intro acc2 h2 d2 m2
                show M_waysAbove_L72 (M_waysOf_G (e + 1)) (e + 1) 121 node i j p q t (capN acc2) ((if p = -1 then j else p) + 1) h2 = _
                unfold M_waysAbove_L72 M_waysAbove_j86
                rw [if_pos (by omega)]
            obtain ⟨h2, x2, d2, m2⟩ := hl2
            rw [x2, ob_some]
            exact ⟨h2, by simp only [hg, if_true], d1.tr d2, m2⟩
          · unfold Bo
            rw [if_neg hg, if_pos rfl]
            exact ⟨h1, by simp only [hg, if_false, Nat.add_zero]; rfl, d1, m1⟩
        · intro acc h1 d1 m1
          have Rp1 := RepM_144 Rp (d0.tr d1)
          show M_waysAbove_L31 (M_waysOf_G (e + 1)) (e + 1) 121 node i j p q (capN acc) (nT G - 1 + 1) h1 = _
          unfold M_waysAbove_L31
          rw [if_pos kK_121, Rp1.2.1, if_pos (by omega)]
      obtain ⟨h1, x1, d1, m1⟩ := hl
      rw [x1, ob_some]
      exact ⟨h1, rfl, d1, m1⟩
  unfold M_waysAbove_b wAbove
  rw [if_pos kK_121, f7, r, if_pos ⟨kK_125, n0, by rw [kL_125]; omega⟩]
  by_cases hm2 : mk G node = 2
  · rw [if_pos hm2, if_pos hm2]
    exact loops 0 h D144.rf hM
  · rw [if_neg hm2, if_neg hm2]
    have hh := (half_item hi).1
    have hf := fr_half (G := G) (node := node) (i := i) (j := j) (p := p) (q := q)
    obtain ⟨h1, x1, d1, m1⟩ := Hw0 0 node i j p q h hh (by omega) Rp hM
    rw [x1, ob_some]
    obtain ⟨h2, x2, d2, m2⟩ := loops (wW G ou row 0 node i j p q) h1 d1 m1
    exact ⟨h2, x2, d1.tr d2, m2⟩
theorem below_ok (W : WF G) (he : 2 ≤ e) (Hw0 : SpecW (M_waysOf_G (e + 1 + 1) 0) G ou row (B + 2)) (Hw1 : SpecW (M_waysOf_G (e + 1) 0) G ou row (B + 1)) (Hw : SpecW (M_waysOf_G e 0) G ou row B) {half node i j p q : Int} (hi : itm G half node i j p q) (hB : fr G half node i j p q ≤ B + 4) (Rp : RepM h G ou row) (hM : Memo h G ou row) :
    Got (M_waysOf_G (e + 1 + 1 + 1) 3 [121, node, i, j, p, q] h) h G ou row (wBelow G ou row (wW G ou row) node i j p q) := by
  show Got (if 2 ≤ e + 1 + 1 then M_waysBelow_b (M_waysOf_G (e + 1 + 1)) (e + 1 + 1) 121 node i j p q h else none) h G ou row _
  rw [if_pos (by omega)]
  have n0 := hi.2.1
  have n1 := hi.2.2.1
  have hn := wf_nn W
  have f5 : h 121 5 = 123 := ms_at Rp.1 (by decide)
  have f6 : h 121 6 = 124 := ms_at Rp.1 (by decide)
  have f8 : h 121 8 = 126 := ms_at Rp.1 (by decide)
  have f9 : h 121 9 = 127 := ms_at Rp.1 (by decide)
  have f33 : h 121 33 = 138 := ms_at Rp.1 (by decide)
  have r := Rp.2.2.2.2.1 node n0 n1
  obtain ⟨hh, -, -, i0, ij, j8, dd⟩ := id hi
  unfold M_waysBelow_b wBelow M_waysBelow_j62 M_waysBelow_j91
  rw [if_pos kK_121, f5, r.1, if_pos ⟨kK_123, n0, by rw [kL_123]; omega⟩]
  have c1' : capN 1 = 1 := rfl
  have c0' : capN 0 = 0 := rfl
  by_cases k1 : kd G node = 1
  · rw [if_pos k1, if_pos k1, w32_id (by omega) (by omega)]
    by_cases hj : j = i + 1
    · rw [if_pos hj, f33, f6, if_pos ⟨kK_138, i0, by rw [kL_138]; omega⟩, if_pos ⟨kK_124, n0, by rw [kL_124]; omega⟩, r.2.1, Rp.2.2.2.2.2.2.2.1 i i0 (by omega)]
      by_cases hq : row i = lb G node
      · rw [if_pos hq, if_pos ⟨hj, hq⟩]; exact Got.same hM 1
      · rw [if_neg hq, if_neg (fun z => hq z.2)]; exact Got.same hM 0
    · rw [if_neg hj, if_neg (fun z => hj z.1)]; exact Got.same hM 0
  rw [if_neg k1, if_neg k1]
  by_cases k2 : kd G node = 2
  · rw [if_pos k2, if_pos k2]
    by_cases hj : i = j
    · rw [if_pos hj, if_pos hj]; exact Got.same hM 1
    · rw [if_neg hj, if_neg hj]; exact Got.same hM 0
  rw [if_neg k2, if_neg k2]
  by_cases k3 : kd G node = 3
  · rw [if_pos k3, if_pos k3]
    by_cases hp : p = i
    · rw [if_pos hp]
      by_cases hq : q = j
      · rw [if_pos hq, if_pos ⟨hp, hq⟩]; exact Got.same hM 1
      · rw [if_neg hq, if_neg (fun z => hq z.2)]; exact Got.same hM 0
    · rw [if_neg hp, if_neg (fun z => hp z.1)]; exact Got.same hM 0
  rw [if_neg k3, if_neg k3]
  by_cases k4 : kd G node = 4
  · rw [if_pos k4, if_pos k4]
    obtain ⟨h1, x1, d1, m1⟩ := hosts_ok W (by omega : 2 ≤ e + 1) Hw1 hi k4 (by omega) Rp hM
    rw [x1, ob_some]
    exact ⟨h1, rfl, d1, m1⟩
  rw [if_neg k4, if_neg k4]
  have hk0 : kd G node = 0 := by have := wf_kd W n0 n1; omega
  have h0 : itm G 0 node i j p q := ⟨Or.inl rfl, hi.2⟩
  have hfr : fr G 0 node i j p q ≤ fr G half node i j p q := by unfold fr; rw [if_neg (by decide)]; split <;> omega
  rw [f9, r.2.2.2.2.1, if_pos ⟨kK_127, n0, by rw [kL_127]; omega⟩]
  by_cases hu : c2 G node = -1
  · rw [if_pos hu, if_pos hu, f8, r.2.2.2.1, if_pos ⟨kK_126, n0, by rw [kL_126]; omega⟩]
    obtain ⟨f1, -⟩ := unary_item W hi hk0 hu
    have hch := wf_ch W n0 n1 hk0
    have hnd := (wf_nd W n0 n1).2.2.2.1 hk0
    rw [if_pos hu] at hnd
    have u := fr_child W (i := i) (j := j) (p := p) (q := q) (i' := i) (j' := j) (p' := p) (q' := q) n0 n1 hch.1 hch.2.1 (by omega) rfl
    obtain ⟨h1, x1, d1, m1⟩ := Hw0 1 (c1 G node) i j p q h f1 (by omega) Rp hM
    rw [x1, ob_some]
    exact ⟨h1, rfl, d1, m1⟩
  · rw [if_neg hu, if_neg hu]
    have hl : Got (loopN (fun q' => M_waysBelow_L135 (M_waysOf_G (e + 1 + 1)) (e + 1 + 1) 121 node i j p q q'.1 q'.2.1 q'.2.2) LN (capN 0, i, h)) h G ou row (0 + sI (fun m => wSplit G (wW G ou row) node i m j p q) i j) := by
      refine acc_loop hM (by omega) (by omega) ?_ ?_
      · intro acc m h1 m0 m1 d1 mm1
        have Rp1 := RepM_144 Rp d1
        show ∃ h2, M_waysBelow_L135 (M_waysOf_G (e + 1 + 1)) (e + 1 + 1) 121 node i j p q (capN acc) m h1 = _ ∧ _
        unfold M_waysBelow_L135
        rw [if_neg (by omega), if_pos kK_121]
        obtain ⟨h2, x2, d2, m2⟩ := split_ok W he Hw h0 hk0 hu m0 m1 (by omega) Rp1 mm1
        rw [x2, ob_some, M_sum_ok, ob_some, w32_id (by omega) (by omega)]
        exact ⟨h2, rfl, d1.tr d2, m2⟩
      · intro acc h1 d1 m1
        show M_waysBelow_L135 (M_waysOf_G (e + 1 + 1)) (e + 1 + 1) 121 node i j p q (capN acc) (j + 1) h1 = _
        unfold M_waysBelow_L135
        rw [if_pos (by omega)]
    obtain ⟨h1, x1, d1, m1⟩ := hl
    rw [Nat.zero_add] at x1
    rw [c0'] at x1
    rw [x1, ob_some]
    exact ⟨h1, rfl, d1, m1⟩
end MW4
