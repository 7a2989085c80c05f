/-! a reckoning's values: the equations have a solution -/
def aStep (G : Gm) (ou : Int → Bool) (A : Ag) (S : SV) : SV := fun half node i j p q =>
  if cov i j p q < nd G node then 0
  else if kd G node = 1 then (if j = i + 1 then aL A i (lb G node) else 0)
  else if kd G node = 2 then (if i = j then a1 A else 0)
  else if kd G node = 3 then (if p = i ∧ q = j then a1 A else 0)
  else if kd G node = 4 then aHosts G ou A S (lb G node) i j
  else if half = 1 then aE A (if mk G node = 2 then 0 else S 0 node i j p q) (if mk G node = 1 then 0 else aRound G ou A S node i j p q)
  else if c2 G node = -1 then S 1 (c1 G node) i j p q
  else aSplit G A S node i j p q
section
variable {G : Gm} {ou : Int → Bool} {A : Ag} {V : Int → Prop} {S S' : SV}
theorem spl_rng (W : WF G) {half node i j p q k : Int} (h : itm G half node i j p q) (hk : kd G node = 0) (h2 : c2 G node ≠ -1) (k0 : (if sp G (c1 G node) = 1 then q else i) ≤ k) (k1 : k ≤ (if sp G (c1 G node) = 1 then j else if sp G node = 1 then p else j)) : i ≤ k ∧ k ≤ j ∧ ¬ (sp G (c1 G node) = 1 ∧ k < q) ∧ ¬ (sp G (c2 G node) = 1 ∧ p < k) := by
  obtain ⟨hh, n0, n1, i0, ij, j8, d⟩ := h
  have hch := wf_ch W n0 n1 hk
  rcases hch.2.2 with q2 | q2
  · exact absurd q2 h2
  have a1 := child_in W n0 n1 hch.1 hch.2.1
  have a2 := child_in W n0 n1 (by omega) q2.2
  have s0 := (wf_sp W n0 n1).2.2.2 hk
  rw [if_neg h2] at s0
  have s1 := (wf_sp W a1.1 a1.2.1).1
  have s2 := (wf_sp W a2.1 a2.2.1).1
  have sn := (wf_sp W n0 n1).1
  by_cases z1 : sp G (c1 G node) = 1
  · rw [if_pos z1] at k0 k1
    omega
  · rw [if_neg z1] at k0 k1
    by_cases z2 : sp G node = 1
    · rw [if_pos z2] at k1
      omega
    · rw [if_neg z2] at k1
      omega
theorem spl_itm (W : WF G) {half node i j p q k : Int} (h : itm G half node i j p q) (hk : kd G node = 0) (h2 : c2 G node ≠ -1) (k0 : (if sp G (c1 G node) = 1 then q else i) ≤ k) (k1 : k ≤ (if sp G (c1 G node) = 1 then j else if sp G node = 1 then p else j)) :
    itm G 1 (c1 G node) i k (gp (sp G (c1 G node)) p) (gp (sp G (c1 G node)) q) ∧ itm G 1 (c2 G node) k j (gp (sp G (c2 G node)) p) (gp (sp G (c2 G node)) q) ∧
    cov i j p q = cov i k (gp (sp G (c1 G node)) p) (gp (sp G (c1 G node)) q) + cov k j (gp (sp G (c2 G node)) p) (gp (sp G (c2 G node)) q) := by
  obtain ⟨z1, z2, z3, z4⟩ := spl_rng W h hk h2 k0 k1
  exact split_items W h hk h2 z1 z2 z3 z4
theorem gSumV (W : WF G) (L : AgL A V) (hV : ∀ half node i j p q, itm G half node i j p q → V (S half node i j p q)) {l i j a b : Int} (i0 : 0 ≤ i) (ia : i ≤ a) (ab : a ≤ b) (bj : b ≤ j) (j8 : j ≤ 8) : V (gSum G ou A S dT l i j a b) := by
  have nt := wf_nt W
  unfold gSum
  apply aI_V L
  intro t t0 t1
  split
  · rename_i hg
    rw [Bool.and_true] at hg
    have r := root_in W t0 (show t < nT G by omega)
    exact ag_P L t0 (by omega) (hV _ _ _ _ _ _ ⟨Or.inr rfl, r.1, r.2.1, i0, by omega, j8, Or.inl ⟨(goB_spec hg).1, ia, ab, bj⟩⟩)
  · exact ag_0 L
/-- what a gap in a gap can be -/
theorem rnd_itm {node half i j p q a b : Int} (h : itm G half node i j p q) (a0 : i ≤ a) (a1 : a ≤ (if p = -1 then j else p)) (b0 : (if p = -1 then a else q) ≤ b) (b1 : b ≤ j) : itm G 0 node a b p q ∧ cov a b p q ≤ cov i j p q ∧ i ≤ a ∧ a ≤ b ∧ b ≤ j := by
  obtain ⟨hh, n0, n1, i0, ij, j8, d⟩ := h
  rcases d with ⟨s1, d1, d2, d3⟩ | ⟨s0, rfl, rfl⟩
  · rw [if_neg (by omega)] at a1 b0
    refine ⟨⟨Or.inl rfl, n0, n1, by omega, by omega, by omega, Or.inl ⟨s1, a1, d2, b0⟩⟩, ?_, a0, by omega, b1⟩
    rw [cov_gap (by omega), cov_gap (by omega)]; omega
  · rw [if_pos rfl] at a1 b0
    refine ⟨⟨Or.inl rfl, n0, n1, by omega, by omega, by omega, Or.inr ⟨s0, rfl, rfl⟩⟩, ?_, a0, b0, b1⟩
    rw [cov_no, cov_no]; omega
theorem aRound_V (W : WF G) (L : AgL A V) (hV : ∀ half node i j p q, itm G half node i j p q → V (S half node i j p q)) {half node i j p q : Int} (h : itm G half node i j p q) : V (aRound G ou A S node i j p q) := by
  unfold aRound
  apply aI_V L
  intro a a0 a1
  apply aI_V L
  intro b b0 b1
  have r := rnd_itm h a0 a1 b0 b1
  exact ag_B L (gSumV W L hV h.2.2.2.1 r.2.2.1 r.2.2.2.1 r.2.2.2.2 h.2.2.2.2.2.1) (hV _ _ _ _ _ _ r.1)
theorem aSplit_V (W : WF G) (L : AgL A V) (hV : ∀ half node i j p q, itm G half node i j p q → V (S half node i j p q)) {half node i j p q : Int} (h : itm G half node i j p q) (hk : kd G node = 0) (h2 : c2 G node ≠ -1) : V (aSplit G A S node i j p q) := by
  unfold aSplit
  apply aI_V L
  intro k k0 k1
  obtain ⟨f1, f2, -⟩ := spl_itm W h hk h2 k0 k1
  exact ag_B L (hV _ _ _ _ _ _ f1) (hV _ _ _ _ _ _ f2)
theorem aHosts_V (W : WF G) (L : AgL A V) (hV : ∀ half node i j p q, itm G half node i j p q → V (S half node i j p q)) {l i j : Int} (i0 : 0 ≤ i) (ij : i ≤ j) (j8 : j ≤ 8) : V (aHosts G ou A S l i j) := by
  have nt := wf_nt W
  unfold aHosts
  apply aI_V L
  intro t t0 t1
  split
  · rename_i hg
    have r := root_in W t0 (show t < nT G by omega)
    exact ag_P L t0 (by omega) (hV _ _ _ _ _ _ ⟨Or.inr rfl, r.1, r.2.1, i0, ij, j8, Or.inr ⟨(goB_spec hg).1, rfl, rfl⟩⟩)
  · exact ag_0 L
theorem aStep_V (W : WF G) (L : AgL A V) (hV : ∀ half node i j p q, itm G half node i j p q → V (S half node i j p q)) {half node i j p q : Int} (h : itm G half node i j p q) : V (aStep G ou A S half node i j p q) := by
  have hk := wf_kd W h.2.1 h.2.2.1
  have i0 := h.2.2.2.1
  have j8 := h.2.2.2.2.2.1
  unfold aStep
  split
  · exact ag_0 L
  split
  · rename_i z
    split
    · have ll := (wf_lb W h.2.1 h.2.2.1).1 (by omega)
      exact ag_L L i0 (by omega) ll.1 ll.2
    · exact ag_0 L
  split
  · split
    · exact ag_1 L
    · exact ag_0 L
  split
  · split
    · exact ag_1 L
    · exact ag_0 L
  split
  · exact aHosts_V W L hV i0 h.2.2.2.2.1 j8
  split
  · rename_i z
    refine ag_E L ?_ ?_
    · split
      · exact ag_0 L
      · exact hV _ _ _ _ _ _ ⟨Or.inl rfl, h.2⟩
    · split
      · exact ag_0 L
      · exact aRound_V W L hV h
  split
  · rename_i z2 z
    exact hV _ _ _ _ _ _ (unary_item W h (by omega) z).1
  · rename_i z2 z
    exact aSplit_V W L hV h (by omega) z
theorem aStep_congr (W : WF G) (L : AgL A V) (hV : ∀ half node i j p q, itm G half node i j p q → V (S half node i j p q)) (hV' : ∀ half node i j p q, itm G half node i j p q → V (S' half node i j p q))
    (hz : ∀ half node i j p q, itm G half node i j p q → cov i j p q < nd G node → S half node i j p q = 0 ∧ S' half node i j p q = 0)
    {half node i j p q : Int} (h : itm G half node i j p q)
    (hR : ∀ half' node' i' j' p' q', itm G half' node' i' j' p' q' → mu G half' node' i' j' p' q' < mu G half node i j p q → S half' node' i' j' p' q' = S' half' node' i' j' p' q') :
    aStep G ou A S half node i j p q = aStep G ou A S' half node i j p q := by
  have hk := wf_kd W h.2.1 h.2.2.1
  have i0 := h.2.2.2.1
  have ij := h.2.2.2.2.1
  have j8 := h.2.2.2.2.2.1
  have nt := wf_nt W
  unfold aStep
  split
  · rfl
  rename_i hcv
  split
  · rfl
  split
  · rfl
  split
  · rfl
  split
  · rename_i k1 k2 k3 k4
    unfold aHosts
    apply aI_congr
    intro t t0 t1
    split
    · rename_i hg
      obtain ⟨f1, f2, -⟩ := place_item W h k4 t0 (by omega) (goB_spec hg).1
      rw [hR _ _ _ _ _ _ f1 f2]
    · rfl
  have hk0 : kd G node = 0 := by omega
  split
  · rename_i z
    subst z
    have hh := half_item h
    rw [hR _ _ _ _ _ _ hh.1 hh.2]
    congr 1
    split
    · rfl
    unfold aRound
    apply aI_congr
    intro a a0 a1
    apply aI_congr
    intro b b0 b1
    obtain ⟨r1, r2, r3, r4, r5⟩ := rnd_itm h a0 a1 b0 b1
    by_cases hn : cov a b p q < nd G node
    · obtain ⟨y1, y2⟩ := hz _ _ _ _ _ _ r1 hn
      rw [y1, y2, ag_B0 L (gSumV W L hV i0 r3 r4 r5 j8), ag_B0 L (gSumV W L hV' i0 r3 r4 r5 j8)]
    · have hm : mu G 0 node a b p q < mu G 1 node i j p q := by
        unfold mu; omega
      rw [hR _ _ _ _ _ _ r1 hm]
      congr 1
      unfold gSum
      apply aI_congr
      intro t t0 t1
      split
      · rename_i hg
        rw [Bool.and_true] at hg
        have hs := (goB_spec hg).1
        obtain ⟨f1, f2, f3, -⟩ := around_items W h t0 (by omega) hs a0 a1 b0 b1
        by_cases hn2 : cov i j a b < nd G (ft G t)
        · obtain ⟨y1, y2⟩ := hz _ _ _ _ _ _ f2 hn2
          rw [y1, y2]
        · rw [hR _ _ _ _ _ _ f2 (around_mu W h t0 (by omega) hs f1 f2 f3 (by omega) (by omega)).2]
      · rfl
  rename_i z
  have hh0 : half = 0 := by have := h.1; omega
  subst hh0
  split
  · rename_i z2
    obtain ⟨f1, f2⟩ := unary_item W h hk0 z2
    exact hR _ _ _ _ _ _ f1 f2
  · rename_i z2
    unfold aSplit
    apply aI_congr
    intro k k0 k1
    obtain ⟨f1, f2, f3⟩ := spl_itm W h hk0 z2 k0 k1
    by_cases hn1 : cov i k (gp (sp G (c1 G node)) p) (gp (sp G (c1 G node)) q) < nd G (c1 G node)
    · obtain ⟨y1, y2⟩ := hz _ _ _ _ _ _ f1 hn1
      rw [y1, y2, ag_0B L (hV _ _ _ _ _ _ f2), ag_0B L (hV' _ _ _ _ _ _ f2)]
    · by_cases hn2 : cov k j (gp (sp G (c2 G node)) p) (gp (sp G (c2 G node)) q) < nd G (c2 G node)
      · obtain ⟨y1, y2⟩ := hz _ _ _ _ _ _ f2 hn2
        rw [y1, y2, ag_B0 L (hV _ _ _ _ _ _ f1), ag_B0 L (hV' _ _ _ _ _ _ f1)]
      · obtain ⟨u1, u2⟩ := split_mu W h hk0 z2 f1 f2 f3 (by omega) (by omega)
        rw [hR _ _ _ _ _ _ f1 u1, hR _ _ _ _ _ _ f2 u2]
end
def aF (G : Gm) (ou : Int → Bool) (A : Ag) : Nat → SV
  | 0 => fun _ _ _ _ _ _ => 0
  | m + 1 => aStep G ou A (aF G ou A m)
/-- the values -/
def aFix (G : Gm) (ou : Int → Bool) (A : Ag) : SV := aF G ou A 1000
section
variable {G : Gm} {ou : Int → Bool} {A : Ag} {V : Int → Prop}
theorem aF_V (W : WF G) (L : AgL A V) : ∀ (m : Nat) (half node i j p q : Int), itm G half node i j p q → V (aF G ou A m half node i j p q)
  | 0, _, _, _, _, _, _, _ => ag_0 L
  | m + 1, _, _, _, _, _, _, h => aStep_V W L (aF_V W L m) h
theorem aF_z (m : Nat) (half node i j p q : Int) (hc : cov i j p q < nd G node) : aF G ou A m half node i j p q = 0 := by
  cases m with
  | zero => rfl
  | succ m =>
    show aStep G ou A (aF G ou A m) half node i j p q = 0
    unfold aStep
    rw [if_pos hc]
theorem aF_fix (W : WF G) (L : AgL A V) : ∀ (m : Nat) (half node i j p q : Int), itm G half node i j p q → mu G half node i j p q < m → aF G ou A m half node i j p q = aF G ou A (m + 1) half node i j p q
  | 0, _, _, _, _, _, _, h, hm => by have := (mu_in W h).1; omega
  | m + 1, half, node, i, j, p, q, h, hm => by
    show aStep G ou A (aF G ou A m) half node i j p q = aStep G ou A (aF G ou A (m + 1)) half node i j p q
    exact aStep_congr W L (aF_V W L m) (aF_V W L (m + 1)) (fun _ _ _ _ _ _ _ hc => ⟨aF_z _ _ _ _ _ _ _ hc, aF_z _ _ _ _ _ _ _ hc⟩) h (fun half' node' i' j' p' q' h' hlt => aF_fix W L m half' node' i' j' p' q' h' (by omega))
theorem aFix_eq (W : WF G) (L : AgL A V) {half node i j p q : Int} (h : itm G half node i j p q) : aFix G ou A half node i j p q = aStep G ou A (aFix G ou A) half node i j p q := by
  have a := mu_in W h
  have b := cov_in h
  exact aF_fix W L 1000 half node i j p q h (by omega)
theorem aFix_V (W : WF G) (L : AgL A V) {half node i j p q : Int} (h : itm G half node i j p q) : V (aFix G ou A half node i j p q) := aF_V W L 1000 _ _ _ _ _ _ h
theorem aFix_z {half node i j p q : Int} (hc : cov i j p q < nd G node) : aFix G ou A half node i j p q = 0 := aF_z 1000 _ _ _ _ _ _ hc
theorem aFix_AEq (W : WF G) (L : AgL A V) (sz : Int) : AEq G ou A V sz (aFix G ou A) := by
  intro half node i j p q h hj
  have hV : ∀ half node i j p q, itm G half node i j p q → V (aFix G ou A half node i j p q) := fun _ _ _ _ _ _ h => aFix_V W L h
  have e := aFix_eq (ou := ou) W L h
  have kd0 := wf_kd W h.2.1 h.2.2.1
  have ndw := wf_nd W h.2.1 h.2.2.1
  have spw := wf_sp W h.2.1 h.2.2.1
  have cv := cov_in h
  have i0 := h.2.2.2.1
  have j8 := h.2.2.2.2.2.1
  refine ⟨hV _ _ _ _ _ _ h, aFix_z, ?_, ?_, ?_, ?_, ?_, ?_, ?_⟩
  · intro z
    by_cases hc : cov i j p q < nd G node
    · rw [aFix_z hc, if_neg]
      have := ndw.2.1 z
      have := (cov_j h).2 (spw.2.2.1 (by omega) (by omega))
      omega
    · rw [e]; unfold aStep
      rw [if_neg hc, if_pos z]
  · intro z
    have := ndw.2.2.1 (by omega)
    rw [e]; unfold aStep
    rw [if_neg (by omega), if_neg (by omega), if_pos z]
  · intro z
    have := ndw.2.2.1 (by omega)
    rw [e]; unfold aStep
    rw [if_neg (by omega), if_neg (by omega), if_neg (by omega), if_pos z]
  · intro z
    have := ndw.2.2.1 (by omega)
    rw [e]; unfold aStep
    rw [if_neg (by omega), if_neg (by omega), if_neg (by omega), if_neg (by omega), if_pos z]
  · intro z hh z2
    by_cases hc : cov i j p q < nd G node
    · have := ndw.2.2.2.1 z
      rw [if_pos z2] at this
      rw [aFix_z hc, aFix_z (by omega)]
    · rw [e]; unfold aStep
      rw [if_neg hc, if_neg (by omega), if_neg (by omega), if_neg (by omega), if_neg (by omega), if_neg (by omega), if_pos z2]
  · intro z hh z2
    by_cases hc : cov i j p q < nd G node
    · have hn := ndw.2.2.2.1 z
      rw [if_neg z2] at hn
      rw [aFix_z hc]
      unfold aSplit
      symm
      apply aI_zero L
      intro k k0 k1
      obtain ⟨f1, f2, f3⟩ := spl_itm W h z z2 k0 k1
      by_cases hn1 : cov i k (gp (sp G (c1 G node)) p) (gp (sp G (c1 G node)) q) < nd G (c1 G node)
      · rw [aFix_z hn1, ag_0B L (hV _ _ _ _ _ _ f2)]
      · rw [aFix_z (node := c2 G node) (by omega), ag_B0 L (hV _ _ _ _ _ _ f1)]
    · rw [e]; unfold aStep
      rw [if_neg hc, if_neg (by omega), if_neg (by omega), if_neg (by omega), if_neg (by omega), if_neg (by omega), if_neg z2]
  · intro z hh
    by_cases hc : cov i j p q < nd G node
    · rw [aFix_z hc, aFix_z hc, ite_self]
      have : aRound G ou A (aFix G ou A) node i j p q = 0 := by
        unfold aRound
        apply aI_zero L
        intro a a0 a1
        apply aI_zero L
        intro b b0 b1
        obtain ⟨r1, r2, r3, r4, r5⟩ := rnd_itm h a0 a1 b0 b1
        rw [aFix_z (i := a) (j := b) (by omega), ag_B0 L (gSumV W L hV i0 r3 r4 r5 j8)]
      rw [this, ite_self, ag_E0 L (ag_0 L)]
    · rw [e]; unfold aStep
      rw [if_neg hc, if_neg (by omega), if_neg (by omega), if_neg (by omega), if_neg (by omega), if_pos hh]
end
