section WFS
variable {G : Gm}
theorem wf_nt (W : WF G) : 0 ≤ nT G ∧ nT G ≤ 8 := W.1
theorem wf_nn (W : WF G) : 0 ≤ nN G ∧ nN G ≤ 40 := W.2.1
theorem wf_ft (W : WF G) : ft G 0 = 0 ∧ ft G (nT G) = nN G := W.2.2.1
theorem wf_step (W : WF G) {t : Int} (h0 : 0 ≤ t) (h1 : t < nT G) : ft G t < ft G (t + 1) ∧ ft G (t + 1) ≤ ft G t + 12 := W.2.2.2.1 t h0 h1
theorem wf_tr (W : WF G) {n : Int} (h0 : 0 ≤ n) (h1 : n < nN G) : 0 ≤ tr G n ∧ tr G n < nT G ∧ ft G (tr G n) ≤ n ∧ n < ft G (tr G n + 1) := W.2.2.2.2.1 n h0 h1
theorem wf_tru (W : WF G) {n t : Int} (h0 : 0 ≤ t) (h1 : t < nT G) (h2 : ft G t ≤ n) (h3 : n < ft G (t + 1)) : tr G n = t := W.2.2.2.2.2.1 n t h0 h1 h2 h3
theorem wf_kd (W : WF G) {n : Int} (h0 : 0 ≤ n) (h1 : n < nN G) : 0 ≤ kd G n ∧ kd G n ≤ 4 := W.2.2.2.2.2.2.1 n h0 h1
theorem wf_ch (W : WF G) {n : Int} (h0 : 0 ≤ n) (h1 : n < nN G) (hk : kd G n = 0) : n < c1 G n ∧ c1 G n < ft G (tr G n + 1) ∧ (c2 G n = -1 ∨ (c1 G n < c2 G n ∧ c2 G n < ft G (tr G n + 1))) := W.2.2.2.2.2.2.2.1 n h0 h1 hk
theorem wf_nch (W : WF G) {n : Int} (h0 : 0 ≤ n) (h1 : n < nN G) (hk : kd G n ≠ 0) : c1 G n = -1 ∧ c2 G n = -1 ∧ mk G n = 0 := W.2.2.2.2.2.2.2.2.1 n h0 h1 hk
theorem wf_lb (W : WF G) {n : Int} (h0 : 0 ≤ n) (h1 : n < nN G) : (kd G n ≠ 2 → 0 ≤ lb G n ∧ lb G n < 26) ∧ (kd G n = 2 → lb G n = -1) := W.2.2.2.2.2.2.2.2.2.1 n h0 h1
theorem wf_nd (W : WF G) {n : Int} (h0 : 0 ≤ n) (h1 : n < nN G) : 0 ≤ nd G n ∧ (kd G n = 1 → nd G n = 1) ∧ (2 ≤ kd G n → nd G n = 0) ∧ (kd G n = 0 → nd G n = nd G (c1 G n) + (if c2 G n = -1 then 0 else nd G (c2 G n))) ∧ nd G n ≤ nd G (ft G (tr G n)) := W.2.2.2.2.2.2.2.2.2.2.1 n h0 h1
theorem wf_sp (W : WF G) {n : Int} (h0 : 0 ≤ n) (h1 : n < nN G) : (sp G n = 0 ∨ sp G n = 1) ∧ (kd G n = 3 → sp G n = 1) ∧ (kd G n ≠ 3 → kd G n ≠ 0 → sp G n = 0) ∧ (kd G n = 0 → sp G n = sp G (c1 G n) + (if c2 G n = -1 then 0 else sp G (c2 G n))) := W.2.2.2.2.2.2.2.2.2.2.2.1 n h0 h1
theorem wf_root (W : WF G) {t : Int} (h0 : 0 ≤ t) (h1 : t < nT G) : kd G (ft G t) = 0 ∧ (sp G (ft G t) = 1 → 1 ≤ nd G (ft G t)) := W.2.2.2.2.2.2.2.2.2.2.2.2.1 t h0 h1
theorem wf_place (W : WF G) {n : Int} (h0 : 0 ≤ n) (h1 : n < nN G) (hk : kd G n = 4) : 1 ≤ nd G (ft G (tr G n)) := W.2.2.2.2.2.2.2.2.2.2.2.2.2.1 n h0 h1 hk
theorem wf_mk (W : WF G) {n : Int} (h0 : 0 ≤ n) (h1 : n < nN G) : 0 ≤ mk G n ∧ mk G n ≤ 2 := W.2.2.2.2.2.2.2.2.2.2.2.2.2.2 n h0 h1
theorem ft_lo (W : WF G) : ∀ k : Nat, (k : Int) ≤ nT G → (k : Int) ≤ ft G k
  | 0, _ => by rw [show ((0 : Nat) : Int) = 0 from rfl, (wf_ft W).1]; exact Int.le_refl _
  | k + 1, h => by
    have h1 := ft_lo W k (by omega)
    have h2 := (wf_step W (t := k) (by omega) (by omega)).1
    rw [show ((k + 1 : Nat) : Int) = (k : Int) + 1 by omega]
    omega
theorem ft_hi (W : WF G) : ∀ k : Nat, (k : Int) ≤ nT G → ft G (nT G - k) ≤ nN G
  | 0, _ => by
    rw [show nT G - ((0 : Nat) : Int) = nT G by omega, (wf_ft W).2]
    exact Int.le_refl _
  | k + 1, h => by
    have h1 := ft_hi W k (by omega)
    have h2 := (wf_step W (t := nT G - ((k + 1 : Nat) : Int)) (by omega) (by omega)).1
    rw [show nT G - ((k + 1 : Nat) : Int) + 1 = nT G - (k : Int) by omega] at h2
    omega
theorem ft_in (W : WF G) {t : Int} (h0 : 0 ≤ t) (h1 : t ≤ nT G) : 0 ≤ ft G t ∧ ft G t ≤ nN G := by
  have a := ft_lo W t.toNat (by omega)
  have b := ft_hi W (nT G - t).toNat (by omega)
  rw [show ((t.toNat : Nat) : Int) = t by omega] at a
  rw [show nT G - (((nT G - t).toNat : Nat) : Int) = t by omega] at b
  omega
/-- a tree's first node -/
theorem root_in (W : WF G) {t : Int} (h0 : 0 ≤ t) (h1 : t < nT G) : 0 ≤ ft G t ∧ ft G t < nN G ∧ tr G (ft G t) = t := by
  have a := ft_in W h0 (by omega)
  have b := wf_step W h0 h1
  have c := ft_in W (t := t + 1) (by omega) (by omega)
  exact ⟨a.1, by omega, wf_tru W h0 h1 (Int.le_refl _) b.1⟩
theorem turn_in (n : Int) : 0 ≤ turn G n ∧ turn G n ≤ 2 := by
  unfold turn; split
  · omega
  · split <;> omega
theorem rel_in (W : WF G) {n : Int} (h0 : 0 ≤ n) (h1 : n < nN G) : 0 ≤ n - ft G (tr G n) ∧ n - ft G (tr G n) ≤ 11 := by
  have a := wf_tr W h0 h1
  have b := wf_step W a.1 a.2.1
  omega
theorem child_in (W : WF G) {n m : Int} (h0 : 0 ≤ n) (h1 : n < nN G) (h2 : n < m) (h3 : m < ft G (tr G n + 1)) : 0 ≤ m ∧ m < nN G ∧ tr G m = tr G n := by
  have a := wf_tr W h0 h1
  have b := ft_in W (t := tr G n + 1) (by omega) (by omega)
  exact ⟨by omega, by omega, wf_tru W a.1 a.2.1 (by omega) h3⟩
theorem cov_in {i j p q half node : Int} (h : itm G half node i j p q) : 0 ≤ cov i j p q ∧ cov i j p q ≤ 8 := by
  obtain ⟨-, -, -, a, b, c, d⟩ := h
  unfold cov gapL
  rcases d with ⟨-, d1, d2, d3⟩ | ⟨-, d1, d2⟩
  · rw [if_neg (by omega)]; omega
  · rw [if_pos d1]; omega
theorem mu_in (W : WF G) {i j p q half node : Int} (h : itm G half node i j p q) : 0 ≤ mu G half node i j p q ∧ mu G half node i j p q < 100 * cov i j p q + 100 := by
  have a := cov_in h
  obtain ⟨hh, n0, n1, -⟩ := h
  have b := turn_in (G := G) node
  have c := rel_in W n0 n1
  unfold mu
  omega
/-- fewer letters covered: less -/
theorem mu_cov (W : WF G) {i j p q half node i' j' p' q' half' node' : Int} (h : itm G half node i j p q) (h' : itm G half' node' i' j' p' q') (hc : cov i' j' p' q' < cov i j p q) : mu G half' node' i' j' p' q' < mu G half node i j p q := by
  have a := mu_in W h'
  obtain ⟨hh, n0, n1, -⟩ := h
  have b := turn_in (G := G) node
  have c := rel_in W n0 n1
  have : 100 * cov i j p q ≤ mu G half node i j p q := by unfold mu; omega
  omega
/-- a child with the same letters, of the same tree -/
theorem mu_child (W : WF G) {i j p q i' j' p' q' node m : Int} (h0 : 0 ≤ node) (h1 : node < nN G) (h2 : node < m) (h3 : m < ft G (tr G node + 1)) (hn : nd G m = nd G node) (hc : cov i' j' p' q' = cov i j p q) : mu G 1 m i' j' p' q' < mu G 0 node i j p q := by
  have a := child_in W h0 h1 h2 h3
  unfold mu
  have : turn G m = turn G node := by unfold turn; rw [a.2.2, hn]
  rw [this, hc, a.2.2]
  omega
theorem mu_turn (W : WF G) {i j p q i' j' p' q' half half' node m : Int} (h : itm G half node i j p q) (h' : itm G half' m i' j' p' q') (ht : turn G m < turn G node) (hc : cov i' j' p' q' = cov i j p q) : mu G half' m i' j' p' q' < mu G half node i j p q := by
  obtain ⟨hh, n0, n1, -⟩ := h
  obtain ⟨hh', n0', n1', -⟩ := h'
  have c := rel_in W n0 n1
  have c' := rel_in W n0' n1'
  unfold mu
  rw [hc]
  omega
theorem cov_gap {i j a b : Int} (h : 0 ≤ a) : cov i j a b = j - i - (b - a) := by unfold cov gapL; rw [if_neg (by omega)]
theorem cov_no {i j : Int} : cov i j (-1) (-1) = j - i := by unfold cov gapL; rw [if_pos rfl]; omega
end WFS
