section FIX
variable {G : Gm} {ou : Int → Bool} {row : Int → Int}
theorem goB_spec {t l s : Int} (h : goB G ou t l s = true) : sp G (ft G t) = s ∧ lb G (ft G t) = l ∧ ou t = false := by
  unfold goB at h
  simp only [Bool.and_eq_true, decide_eq_true_eq, Bool.not_eq_true'] at h
  exact ⟨h.1.1, h.1.2, h.2⟩
theorem around_items (W : WF G) {half node i j p q t a b : Int} (h : itm G half node i j p q) (t0 : 0 ≤ t) (t1 : t < nT G) (hs : sp G (ft G t) = 1) (a0 : i ≤ a) (a1 : a ≤ (if p = -1 then j else p)) (b0 : (if p = -1 then a else q) ≤ b) (b1 : b ≤ j) :
    itm G 0 node a b p q ∧ itm G 1 (ft G t) i j a b ∧ cov i j p q = cov a b p q + cov i j a b ∧ i ≤ a ∧ a ≤ b := by
  have hr := root_in W t0 t1
  obtain ⟨hh, n0, n1, i0, ij, j8, d⟩ := h
  rcases d with ⟨s1, d1, d2, d3⟩ | ⟨s0, rfl, rfl⟩
  · rw [if_neg (by omega)] at a1 b0
    refine ⟨⟨Or.inl rfl, n0, n1, by omega, by omega, by omega, Or.inl ⟨s1, a1, d2, b0⟩⟩, ⟨Or.inr rfl, hr.1, hr.2.1, i0, ij, j8, Or.inl ⟨hs, a0, by omega, b1⟩⟩, ?_, a0, by omega⟩
    rw [cov_gap (by omega), cov_gap (by omega), cov_gap (by omega)]; omega
  · rw [if_pos rfl] at a1 b0
    refine ⟨⟨Or.inl rfl, n0, n1, by omega, by omega, by omega, Or.inr ⟨s0, rfl, rfl⟩⟩, ⟨Or.inr rfl, hr.1, hr.2.1, i0, ij, j8, Or.inl ⟨hs, a0, b0, b1⟩⟩, ?_, a0, b0⟩
    rw [cov_no, cov_no, cov_gap (by omega)]; omega
theorem turn_root (W : WF G) {t : Int} (t0 : 0 ≤ t) (t1 : t < nT G) : turn G (ft G t) = if nd G (ft G t) = 0 then 1 else 0 := by
  unfold turn
  rw [(root_in W t0 t1).2.2]
  split
  · rfl
  · rw [if_pos rfl]
theorem turn_zero (W : WF G) {n : Int} (hz : nd G n = 0) : 1 ≤ turn G n := by
  unfold turn
  split
  · omega
  · rename_i h; rw [if_neg (by omega)]; omega
theorem around_mu (W : WF G) {node i j p q t a b : Int} (h : itm G 1 node i j p q) (t0 : 0 ≤ t) (t1 : t < nT G) (hs : sp G (ft G t) = 1) (hi : itm G 0 node a b p q) (ho : itm G 1 (ft G t) i j a b) (hc : cov i j p q = cov a b p q + cov i j a b) (r1 : nd G (ft G t) ≤ cov i j a b) (r2 : nd G node ≤ cov a b p q) :
    mu G 0 node a b p q < mu G 1 node i j p q ∧ mu G 1 (ft G t) i j a b < mu G 1 node i j p q := by
  have h1 := (wf_root W t0 t1).2 hs
  refine ⟨mu_cov W h hi (by omega), ?_⟩
  have c0 := (cov_in hi).1
  by_cases hz : cov a b p q = 0
  · have n0 := (wf_nd W h.2.1 h.2.2.1).1
    refine mu_turn W h ho ?_ (by omega)
    have := turn_zero W (n := node) (by omega)
    rw [turn_root W t0 t1, if_neg (by omega)]
    omega
  · exact mu_cov W h ho (by omega)
theorem split_items (W : WF G) {half node i j p q m : Int} (h : itm G half node i j p q) (hk : kd G node = 0) (h2 : c2 G node ≠ -1) (m0 : i ≤ m) (m1 : m ≤ j) (e1 : ¬ (sp G (c1 G node) = 1 ∧ m < q)) (e2 : ¬ (sp G (c2 G node) = 1 ∧ p < m)) :
    itm G 1 (c1 G node) i m (gp (sp G (c1 G node)) p) (gp (sp G (c1 G node)) q) ∧ itm G 1 (c2 G node) m j (gp (sp G (c2 G node)) p) (gp (sp G (c2 G node)) q) ∧
    cov i j p q = cov i m (gp (sp G (c1 G node)) p) (gp (sp G (c1 G node)) q) + cov m j (gp (sp G (c2 G node)) p) (gp (sp G (c2 G node)) q) := by
  obtain ⟨hh, n0, n1, i0, ij, j8, d⟩ := h
  have hch := wf_ch W n0 n1 hk
  rcases hch.2.2 with q2 | q2
  · exact absurd q2 h2
  have a1 := child_in W n0 n1 hch.1 hch.2.1
  have a2 := child_in W n0 n1 (by omega) q2.2
  have s0 := (wf_sp W n0 n1).2.2.2 hk
  rw [if_neg h2] at s0
  have s1 := (wf_sp W a1.1 a1.2.1).1
  have s2 := (wf_sp W a2.1 a2.2.1).1
  have sn := (wf_sp W n0 n1).1
  rcases s1 with s1 | s1 <;> rcases s2 with s2 | s2
  · have : sp G node = 0 := by omega
    rcases d with ⟨d0, -⟩ | ⟨-, rfl, rfl⟩
    · omega
    simp only [gp, s1, s2, if_neg (show ¬ (0 : Int) = 1 by decide)]
    refine ⟨⟨Or.inr rfl, a1.1, a1.2.1, i0, m0, by omega, Or.inr ⟨s1, rfl, rfl⟩⟩, ⟨Or.inr rfl, a2.1, a2.2.1, by omega, m1, j8, Or.inr ⟨s2, rfl, rfl⟩⟩, ?_⟩
    rw [cov_no, cov_no, cov_no]; omega
  · have : sp G node = 1 := by omega
    rcases d with ⟨-, d1, d2, d3⟩ | ⟨d0, -⟩
    · simp only [gp, s1, s2, if_neg (show ¬ (0 : Int) = 1 by decide), if_true]
      refine ⟨⟨Or.inr rfl, a1.1, a1.2.1, i0, m0, by omega, Or.inr ⟨s1, rfl, rfl⟩⟩, ⟨Or.inr rfl, a2.1, a2.2.1, by omega, m1, j8, Or.inl ⟨s2, by omega, d2, d3⟩⟩, ?_⟩
      rw [cov_no, cov_gap (by omega), cov_gap (by omega)]; omega
    · omega
  · have : sp G node = 1 := by omega
    rcases d with ⟨-, d1, d2, d3⟩ | ⟨d0, -⟩
    · simp only [gp, s1, s2, if_neg (show ¬ (0 : Int) = 1 by decide), if_true]
      refine ⟨⟨Or.inr rfl, a1.1, a1.2.1, i0, m0, by omega, Or.inl ⟨s1, d1, d2, by omega⟩⟩, ⟨Or.inr rfl, a2.1, a2.2.1, by omega, m1, j8, Or.inr ⟨s2, rfl, rfl⟩⟩, ?_⟩
      rw [cov_no, cov_gap (by omega), cov_gap (by omega)]; omega
    · omega
  · omega
theorem split_mu (W : WF G) {node i j p q i1 j1 p1 q1 i2 j2 p2 q2 : Int} (h : itm G 0 node i j p q) (hk : kd G node = 0) (h2 : c2 G node ≠ -1) (f1 : itm G 1 (c1 G node) i1 j1 p1 q1) (f2 : itm G 1 (c2 G node) i2 j2 p2 q2) (hc : cov i j p q = cov i1 j1 p1 q1 + cov i2 j2 p2 q2) (r1 : nd G (c1 G node) ≤ cov i1 j1 p1 q1) (r2 : nd G (c2 G node) ≤ cov i2 j2 p2 q2) :
    mu G 1 (c1 G node) i1 j1 p1 q1 < mu G 0 node i j p q ∧ mu G 1 (c2 G node) i2 j2 p2 q2 < mu G 0 node i j p q := by
  have n0 := h.2.1
  have n1 := h.2.2.1
  have hch := wf_ch W n0 n1 hk
  rcases hch.2.2 with qq | qq
  · exact absurd qq h2
  have hnd := (wf_nd W n0 n1).2.2.2.1 hk
  rw [if_neg h2] at hnd
  have c10 := (cov_in f1).1
  have c20 := (cov_in f2).1
  have z1 := (wf_nd W f1.2.1 f1.2.2.1).1
  have z2 := (wf_nd W f2.2.1 f2.2.2.1).1
  refine ⟨?_, ?_⟩
  · by_cases hz : cov i2 j2 p2 q2 = 0
    · exact mu_child W n0 n1 hch.1 hch.2.1 (by omega) (by omega)
    · exact mu_cov W h f1 (by omega)
  · by_cases hz : cov i1 j1 p1 q1 = 0
    · exact mu_child W n0 n1 (by omega) qq.2 (by omega) (by omega)
    · exact mu_cov W h f2 (by omega)
theorem unary_item (W : WF G) {half node i j p q : Int} (h : itm G half node i j p q) (hk : kd G node = 0) (h2 : c2 G node = -1) : itm G 1 (c1 G node) i j p q ∧ mu G 1 (c1 G node) i j p q < mu G 0 node i j p q := by
  obtain ⟨hh, n0, n1, i0, ij, j8, d⟩ := h
  have hch := wf_ch W n0 n1 hk
  have a1 := child_in W n0 n1 hch.1 hch.2.1
  have s0 := (wf_sp W n0 n1).2.2.2 hk
  have hnd := (wf_nd W n0 n1).2.2.2.1 hk
  rw [if_pos h2] at s0 hnd
  refine ⟨⟨Or.inr rfl, a1.1, a1.2.1, i0, ij, j8, ?_⟩, mu_child W n0 n1 hch.1 hch.2.1 (by omega) rfl⟩
  rw [s0, Int.add_zero] at d
  exact d
theorem place_item (W : WF G) {half node i j p q t : Int} (h : itm G half node i j p q) (hk : kd G node = 4) (t0 : 0 ≤ t) (t1 : t < nT G) (hs : sp G (ft G t) = 0) : itm G 1 (ft G t) i j (-1) (-1) ∧ mu G 1 (ft G t) i j (-1) (-1) < mu G half node i j p q ∧ p = -1 ∧ q = -1 := by
  have hr := root_in W t0 t1
  have h' := h
  obtain ⟨hh, n0, n1, i0, ij, j8, d⟩ := h
  have hsn := (wf_sp W n0 n1).2.2.1 (by omega) (by omega)
  have hpl := wf_place W n0 n1 hk
  have hnd := (wf_nd W n0 n1).2.2.1 (by omega)
  rcases d with ⟨d0, -⟩ | ⟨-, rfl, rfl⟩
  · omega
  have hi : itm G 1 (ft G t) i j (-1) (-1) := ⟨Or.inr rfl, hr.1, hr.2.1, i0, ij, j8, Or.inr ⟨hs, rfl, rfl⟩⟩
  refine ⟨hi, mu_turn W h' hi ?_ rfl, rfl, rfl⟩
  have : turn G node = 2 := by
    unfold turn
    rw [if_neg (by omega), if_neg (by omega)]
  rw [this, turn_root W t0 t1]
  split <;> omega
theorem half_item {node i j p q : Int} (h : itm G 1 node i j p q) : itm G 0 node i j p q ∧ mu G 0 node i j p q < mu G 1 node i j p q := by
  obtain ⟨hh, r⟩ := h
  exact ⟨⟨Or.inl rfl, r⟩, by unfold mu; omega⟩
theorem wStep_congr (W : WF G) {half node i j p q : Int} (h : itm G half node i j p q) {R R' : WR} (hR : ∀ half' node' i' j' p' q', itm G half' node' i' j' p' q' → mu G half' node' i' j' p' q' < mu G half node i j p q → R half' node' i' j' p' q' = R' half' node' i' j' p' q') :
    wStep G ou row R half node i j p q = wStep G ou row R' half node i j p q := by
  unfold wStep
  split
  · rfl
  · split
    · rename_i hc
      obtain ⟨rfl, hk⟩ := hc
      unfold wAbove
      have hh := half_item h
      rw [hR _ _ _ _ _ _ hh.1 hh.2]
      congr 1
      split
      · rfl
      · apply sI_congr
        intro t t0 t1
        split
        · rename_i hg
          have hs := (goB_spec hg).1
          apply sI_congr
          intro a a0 a1
          apply sI_congr
          intro b b0 b1
          unfold wAround
          split
          · rename_i hr
            obtain ⟨f1, f2, f3, -⟩ := around_items W h t0 (by omega) hs a0 a1 b0 b1
            obtain ⟨u1, u2⟩ := around_mu W h t0 (by omega) hs f1 f2 f3 hr.1 hr.2
            rw [hR _ _ _ _ _ _ f1 u1, hR _ _ _ _ _ _ f2 u2]
          · rfl
        · rfl
    · unfold wBelow
      split
      · rfl
      split
      · rfl
      split
      · rfl
      split
      · rename_i h1 h2 h3 hk
        unfold wHosts
        apply sI_congr
        intro t t0 t1
        split
        · rename_i hg
          obtain ⟨f1, f2, -⟩ := place_item W h hk t0 (by omega) (goB_spec hg).1
          exact hR _ _ _ _ _ _ f1 f2
        · rfl
      · rename_i hn h1 h2 h3 h4
        have hk0 : kd G node = 0 := by have := wf_kd W h.2.1 h.2.2.1; omega
        have hm : mu G 0 node i j p q ≤ mu G half node i j p q := by have := h.1; unfold mu; omega
        have h0 : itm G 0 node i j p q := ⟨Or.inl rfl, h.2⟩
        split
        · rename_i hu
          obtain ⟨f1, f2⟩ := unary_item W h hk0 hu
          exact hR _ _ _ _ _ _ f1 (by omega)
        · rename_i hu
          apply sI_congr
          intro m m0 m1
          unfold wSplit
          split
          · rename_i hc
            obtain ⟨e1, e2, e3, e4⟩ := hc
            obtain ⟨f1, f2, f3⟩ := split_items W h hk0 hu m0 m1 e1 e2
            obtain ⟨u1, u2⟩ := split_mu W h0 hk0 hu f1 f2 f3 e3 e4
            rw [hR _ _ _ _ _ _ f1 (by omega), hR _ _ _ _ _ _ f2 (by omega)]
          · rfl
theorem wN_fix (W : WF G) : ∀ (m : Nat) (half node i j p q : Int), itm G half node i j p q → mu G half node i j p q < m → wN G ou row m half node i j p q = wN G ou row (m + 1) half node i j p q
  | 0, _, _, _, _, _, _, h, hm => by have := (mu_in W h).1; omega
  | m + 1, half, node, i, j, p, q, h, hm => by
    show wStep G ou row (wN G ou row m) half node i j p q = wStep G ou row (wN G ou row (m + 1)) half node i j p q
    exact wStep_congr W h (fun half' node' i' j' p' q' h' hlt => wN_fix W m half' node' i' j' p' q' h' (by omega))
/-- in how many ways -/
def wW (G : Gm) (ou : Int → Bool) (row : Int → Int) : WR := wN G ou row 1000
theorem wW_eq (W : WF G) {half node i j p q : Int} (h : itm G half node i j p q) : wW G ou row half node i j p q = wStep G ou row (wW G ou row) half node i j p q := by
  have a := mu_in W h
  have b := cov_in h
  exact wN_fix W 1000 half node i j p q h (by omega)
end FIX
