section MW3
variable {h : Hp} {G : Gm} {ou : Int → Bool} {row : Int → Int} {B : Int} {e : Nat}
theorem around_ok (W : WF G) (he : 2 ≤ e) (Hw : SpecW (M_waysOf_G e 0) G ou row B) {node i j p q t a b : Int} (hi : itm G 1 node i j p q) (t0 : 0 ≤ t) (t1 : t < nT G) (hs : sp G (ft G t) = 1) (a0 : i ≤ a) (a1 : a ≤ (if p = -1 then j else p)) (b0 : (if p = -1 then a else q) ≤ b) (b1 : b ≤ j) (hB : fr G 1 node i j p q ≤ B + 4) (Rp : RepM h G ou row) (hM : Memo h G ou row) :
    Got (M_waysOf_G (e + 1) 2 [121, node, t, a, b, i, j, p, q] h) h G ou row (wAround G (wW G ou row) node t a b i j p q) := by
  show Got (if 2 ≤ e then M_waysAround_b (M_waysOf_G e) e 121 node t a b i j p q h else none) h G ou row _
  rw [if_pos he]
  obtain ⟨f1, f2, f3, -⟩ := around_items W hi t0 t1 hs a0 a1 b0 b1
  unfold M_waysAround_b wAround
  rw [if_pos kK_121, M_root_ok Rp W t0 t1, ob_some, M_hasRoom_ok Rp W f2, ob_some]
  by_cases q1 : cov i j a b < nd G (ft G t)
  · rw [if_pos q1, if_pos rfl, if_neg (by omega)]
    exact Got.same hM 0
  rw [if_neg q1, if_neg (by decide), M_hasRoom_ok Rp W f1, ob_some]
  by_cases q2 : cov a b p q < nd G node
  · rw [if_pos q2, if_pos rfl, if_neg (by omega)]
    exact Got.same hM 0
  rw [if_neg q2, if_neg (by decide), if_pos ⟨by omega, by omega⟩]
  obtain ⟨u1, u2⟩ := around_fr W hi t0 t1 hs f1 f2 f3 (by omega) (by omega)
  obtain ⟨h1, e1, d1, m1⟩ := Hw 0 node a b p q h f1 (by omega) Rp hM
  rw [e1, ob_some]
  by_cases z : capN (wW G ou row 0 node a b p q) = 0
  · rw [if_pos z]
    rw [capN_0.mp z, Nat.zero_mul]
    exact ⟨h1, rfl, d1, m1⟩
  rw [if_neg z, M_root_ok (RepM_144 Rp d1) W t0 t1, ob_some]
  obtain ⟨h2, e2, d2, m2⟩ := Hw 1 (ft G t) i j a b h1 f2 (by omega) (RepM_144 Rp d1) m1
  rw [e2, ob_some, M_product_ok, ob_some]
  exact ⟨h2, rfl, d1.tr d2, m2⟩
theorem first_ok (W : WF G) (he : 2 ≤ e) (Hw : SpecW (M_waysOf_G e 0) G ou row B) {node i m p q : Int} (n0 : 0 ≤ node) (n1 : node < nN G) (c0 : 0 ≤ c1 G node) (c3 : c1 G node < nN G) (f1 : itm G 1 (c1 G node) i m (gp (sp G (c1 G node)) p) (gp (sp G (c1 G node)) q)) (hB : fr G 1 (c1 G node) i m (gp (sp G (c1 G node)) p) (gp (sp G (c1 G node)) q) ≤ B) (Rp : RepM h G ou row) (hM : Memo h G ou row) :
    Got (M_waysOf_G (e + 1) 5 [121, node, i, m, p, q] h) h G ou row (wW G ou row 1 (c1 G node) i m (gp (sp G (c1 G node)) p) (gp (sp G (c1 G node)) q)) := by
  show Got (if 2 ≤ e then M_waysFirst_b (M_waysOf_G e) e 121 node i m p q h else none) h G ou row _
  have hn := wf_nn W
  have r := Rp.2.2.2.2.1 node n0 n1
  have r1 := (Rp.2.2.2.2.1 _ c0 c3).2.2.2.2.2.2.1
  have f8 : h 121 8 = 126 := ms_at Rp.1 (by decide)
  have f14 : h 121 14 = 130 := ms_at Rp.1 (by decide)
  have s1 := (wf_sp W c0 c3).1
  unfold M_waysFirst_b M_waysFirst_j34 M_waysFirst_j45
  rw [if_pos he, if_pos kK_121, f8, f14, r.2.2.2.1, if_pos ⟨kK_126, n0, by rw [kL_126]; omega⟩, if_pos ⟨kK_130, c0, by rw [kL_130]; omega⟩, r1, gp_if s1, gp_if s1, if_pos kK_121]
  obtain ⟨h1, e1, d1, m1⟩ := Hw 1 (c1 G node) i m _ _ h f1 hB Rp hM
  rw [e1, ob_some]
  exact ⟨h1, rfl, d1, m1⟩
theorem second_ok (W : WF G) (he : 2 ≤ e) (Hw : SpecW (M_waysOf_G e 0) G ou row B) {node m j p q : Int} (n0 : 0 ≤ node) (n1 : node < nN G) (c0 : 0 ≤ c2 G node) (c3 : c2 G node < nN G) (f1 : itm G 1 (c2 G node) m j (gp (sp G (c2 G node)) p) (gp (sp G (c2 G node)) q)) (hB : fr G 1 (c2 G node) m j (gp (sp G (c2 G node)) p) (gp (sp G (c2 G node)) q) ≤ B) (Rp : RepM h G ou row) (hM : Memo h G ou row) :
    Got (M_waysOf_G (e + 1) 6 [121, node, m, j, p, q] h) h G ou row (wW G ou row 1 (c2 G node) m j (gp (sp G (c2 G node)) p) (gp (sp G (c2 G node)) q)) := by
  show Got (if 2 ≤ e then M_waysSecond_b (M_waysOf_G e) e 121 node m j p q h else none) h G ou row _
  have hn := wf_nn W
  have r := Rp.2.2.2.2.1 node n0 n1
  have r1 := (Rp.2.2.2.2.1 _ c0 c3).2.2.2.2.2.2.1
  have f8 : h 121 9 = 127 := ms_at Rp.1 (by decide)
  have f14 : h 121 14 = 130 := ms_at Rp.1 (by decide)
  have s1 := (wf_sp W c0 c3).1
  unfold M_waysSecond_b M_waysSecond_j34 M_waysSecond_j45
  rw [if_pos he, if_pos kK_121, f8, f14, r.2.2.2.2.1, if_pos ⟨kK_127, n0, by rw [kL_127]; omega⟩, if_pos ⟨kK_130, c0, by rw [kL_130]; omega⟩, r1, gp_if s1, gp_if s1, if_pos kK_121]
  obtain ⟨h1, e1, d1, m1⟩ := Hw 1 (c2 G node) m j _ _ h f1 hB Rp hM
  rw [e1, ob_some]
  exact ⟨h1, rfl, d1, m1⟩
theorem split_ok (W : WF G) (he : 2 ≤ e) (Hw : SpecW (M_waysOf_G e 0) G ou row B) {node i m j p q : Int} (hi : itm G 0 node i j p q) (hk : kd G node = 0) (hc2 : c2 G node ≠ -1) (m0 : i ≤ m) (m1 : m ≤ j) (hB : fr G 0 node i j p q ≤ B + 4) (Rp : RepM h G ou row) (hM : Memo h G ou row) :
    Got (M_waysOf_G (e + 1 + 1) 7 [121, node, i, m, j, p, q] h) h G ou row (wSplit G (wW G ou row) node i m j p q) := by
  show Got (if 2 ≤ e + 1 then M_waysSplit_b (M_waysOf_G (e + 1)) (e + 1) 121 node i m j p q h else none) h G ou row _
  rw [if_pos (by omega)]
  have n0 := hi.2.1
  have n1 := hi.2.2.1
  unfold M_waysSplit_b wSplit
  rw [if_pos kK_121, M_canSplit_ok Rp W hi hk hc2 m0 m1, ob_some]
  by_cases hc : ¬ (sp G (c1 G node) = 1 ∧ m < q) ∧ ¬ (sp G (c2 G node) = 1 ∧ p < m) ∧ nd G (c1 G node) ≤ cov i m (gp (sp G (c1 G node)) p) (gp (sp G (c1 G node)) q) ∧ nd G (c2 G node) ≤ cov m j (gp (sp G (c2 G node)) p) (gp (sp G (c2 G node)) q)
  · rw [if_pos hc, if_neg (by decide)]
    obtain ⟨e1, e2, e3, e4⟩ := hc
    obtain ⟨f1, f2, f3⟩ := split_items W hi hk hc2 m0 m1 e1 e2
    obtain ⟨u1, u2⟩ := split_fr W hi hk hc2 f1 f2 f3 e3 e4
    obtain ⟨h1, x1, d1, m1'⟩ := first_ok W he Hw n0 n1 f1.2.1 f1.2.2.1 f1 (by omega) Rp hM
    rw [x1, ob_some]
    obtain ⟨h2, x2, d2, m2'⟩ := second_ok W he Hw n0 n1 f2.2.1 f2.2.2.1 f2 (by omega) (RepM_144 Rp d1) m1'
    rw [x2, ob_some, M_product_ok, ob_some]
    exact ⟨h2, by rw [if_pos ⟨e1, e2, e3, e4⟩], d1.tr d2, m2'⟩
  · rw [if_neg hc, if_pos rfl, if_neg hc]
    exact Got.same hM 0
theorem hosts_ok (W : WF G) (he : 2 ≤ e) (Hw : SpecW (M_waysOf_G e 0) G ou row B) {half node i j p q : Int} (hi : itm G half node i j p q) (hk : kd G node = 4) (hB : fr G half node i j p q ≤ B + 4) (Rp : RepM h G ou row) (hM : Memo h G ou row) :
    Got (M_waysOf_G (e + 1) 4 [121, node, i, j] h) h G ou row (wHosts G ou (wW G ou row) (lb G node) i j) := by
  show Got (if 2 ≤ e then M_waysHosts_b (M_waysOf_G e) e 121 node i j h else none) h G ou row _
  rw [if_pos he]
  have n0 := hi.2.1
  have n1 := hi.2.2.1
  have hn := wf_nn W
  have ht := wf_nt W
  unfold M_waysHosts_b wHosts
  have hl : Got (loopN (fun q => M_waysHosts_L6 (M_waysOf_G e) e 121 node i j q.1 q.2.1 q.2.2) LN (capN 0, 0, h)) h G ou row (0 + sI (fun t => if goB G ou t (lb G node) 0 then wW G ou row 1 (ft G t) i j (-1) (-1) else 0) 0 (nT G - 1)) := by
    refine acc_loop hM (by omega) (by omega) ?_ ?_
    · intro acc t h1 t0 t1 d1 m1
      have Rp1 := RepM_144 Rp d1
      have g1 : h1 121 6 = 124 := ms_at Rp1.1 (by decide)
      have g2 := (Rp1.2.2.2.2.1 node n0 n1).2.1
      have g3 := Rp1.2.1
      show ∃ h2, M_waysHosts_L6 (M_waysOf_G e) e 121 node i j (capN acc) t h1 = _ ∧ _
      unfold M_waysHosts_L6 M_waysHosts_j53
      rw [if_pos kK_121, g3, if_neg (by omega), g1, g2, if_pos ⟨kK_124, n0, by rw [kL_124]; omega⟩, M_mayGo_ok Rp1 W t0 (by omega), ob_some, w32_id (by omega) (by omega)]
      by_cases hg : goB G ou t (lb G node) 0 = true
      · unfold Bo
        rw [if_pos hg, if_neg (by decide), M_root_ok Rp1 W t0 (by omega), ob_some]
        obtain ⟨f1, f2, -⟩ := place_item W hi hk t0 (by omega) (goB_spec hg).1
        have fq : fr G 1 (ft G t) i j (-1) (-1) + 4 ≤ fr G half node i j p q := by
          refine fr_turn W hi t0 (by omega) ?_ ?_
          · have hpl := wf_place W n0 n1 hk
            have hnd := (wf_nd W n0 n1).2.2.1 (by omega)
            have : turn G node = 2 := by
              unfold turn
              rw [if_neg (by omega), if_neg (by omega)]
            rw [this]
            have := root_turn1 W t0 (t := t) (by omega)
            omega
          · obtain ⟨-, -, e1, e2⟩ := place_item W hi hk t0 (by omega) (goB_spec hg).1
            rw [e1, e2]
        obtain ⟨h2, x2, d2, m2⟩ := Hw 1 (ft G t) i j (-1) (-1) h1 f1 (by omega) Rp1 m1
        rw [x2, ob_some, M_sum_ok, ob_some]
        exact ⟨h2, by simp only [hg, if_true], d1.tr d2, m2⟩
      · unfold Bo
        rw [if_neg hg, if_pos rfl]
        exact ⟨h1, by simp only [hg, if_false, Nat.add_zero]; rfl, d1, m1⟩
    · intro acc h1 d1 m1
      have Rp1 := RepM_144 Rp d1
      show M_waysHosts_L6 (M_waysOf_G e) e 121 node i j (capN acc) (nT G - 1 + 1) h1 = _
      unfold M_waysHosts_L6
      rw [if_pos kK_121, Rp1.2.1, if_pos (by omega)]
  obtain ⟨h1, x1, d1, m1⟩ := hl
  rw [Nat.zero_add] at x1
  have c0 : capN 0 = 0 := rfl
  rw [c0] at x1
  rw [x1, ob_some]
  exact ⟨h1, rfl, d1, m1⟩
end MW3
