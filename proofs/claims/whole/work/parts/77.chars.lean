/-! fewest and most steps of an item -/
section
variable {G : Gm} {ou : Int → Bool} {row : Int → Int} {sz b : Int} {S : SV}
theorem itemGV (I : GIn G) (Q : AEq G ou (agS row) r64 sz S) {half node i j p q g : Int} (h : itm G half node i j p q) (hj : j ≤ sz) (hg : gr G node i j p q ≤ g) (g0 : 0 ≤ g) (g50 : g ≤ 50) : GV b g (S half node i j p q) (fun v => S half node i j p q ≠ 0 ∧ v = fv b (S half node i j p q)) :=
  GV_self (Q _ _ _ _ _ _ h hj).1 (sum_z I Q h hj hg g0 g50).2 g50
theorem S_z (I : GIn G) (Q : AEq G ou (agS row) r64 sz S) {half node i j p q : Int} (h : itm G half node i j p q) (hj : j ≤ sz) (hg : gr G node i j p q ≤ 50) : S half node i j p q = 0 ↔ wW G ou row half node i j p q = 0 := (sum_z I Q h hj hg (by decide) (by decide)).1
def TA (G : Gm) (ou : Int → Bool) (S : SV) (b node i j p q : Int) : Int → Prop := fun v =>
  (mk G node ≠ 2 ∧ S 0 node i j p q ≠ 0 ∧ v = fv b (S 0 node i j p q)) ∨
  (mk G node ≠ 1 ∧ ∃ t, (0 ≤ t ∧ t ≤ nT G - 1) ∧ goB G ou t (lb G node) 1 = true ∧ ∃ a, (i ≤ a ∧ a ≤ (if p = -1 then j else p)) ∧ ∃ c, ((if p = -1 then a else q) ≤ c ∧ c ≤ j) ∧ S 1 (ft G t) i j a c ≠ 0 ∧ S 0 node a c p q ≠ 0 ∧ v = fv b (S 1 (ft G t) i j a c) + 1 + fv b (S 0 node a c p q))
theorem chA (I : GIn G) (Q : AEq G ou (agS row) r64 sz S) {node i j p q : Int} (h : itm G 1 node i j p q) (hj : j ≤ sz) (hk : kd G node = 0) (hg : gr G node i j p q ≤ 50) : IsB b (qv b (S 1 node i j p q)) (TA G ou S b node i j p q) := by
  have W := I.1
  have L := agS_law row
  have nt := wf_nt W
  have hh := half_item h
  have i0 := h.2.2.2.1
  have j8 := h.2.2.2.2.2.1
  have hV : ∀ half node i j p q, itm G half node i j p q → j ≤ sz → r64 (S half node i j p q) := fun _ _ _ _ _ _ a b => (Q _ _ _ _ _ _ a b).1
  have gb := itemGV (b := b) I Q hh.1 hj hg (by decide) (by decide)
  have bare : GV b 50 (if mk G node = 2 then 0 else S 0 node i j p q) (fun v => mk G node ≠ 2 ∧ S 0 node i j p q ≠ 0 ∧ v = fv b (S 0 node i j p q)) := by
    by_cases hm : mk G node = 2
    · rw [if_pos hm]; exact GV_0 (fun v z => z.1 hm)
    · rw [if_neg hm]; exact GV_c gb (fun v => ⟨fun z => ⟨hm, z⟩, fun z => z.2⟩)
  have cell : ∀ a, i ≤ a → a ≤ (if p = -1 then j else p) → ∀ c, (if p = -1 then a else q) ≤ c → c ≤ j → GV b 50 (aB (agS row) (gSum G ou (agS row) S dT (lb G node) i j a c) (S 0 node a c p q)) (fun v => ∃ t, (0 ≤ t ∧ t ≤ nT G - 1) ∧ goB G ou t (lb G node) 1 = true ∧ S 1 (ft G t) i j a c ≠ 0 ∧ S 0 node a c p q ≠ 0 ∧ v = fv b (S 1 (ft G t) i j a c) + 1 + fv b (S 0 node a c p q)) := by
    intro a a0 a1 c c0 c1
    obtain ⟨x1, x2, x3, x4, x5⟩ := rnd_itm h a0 a1 c0 c1
    have vi := hV _ _ _ _ _ _ x1 (show c ≤ sz by omega)
    have vg : r64 (gSum G ou (agS row) S dT (lb G node) i j a c) := by
      unfold gSum
      apply aI_V L
      intro t t0 t1
      rw [Bool.and_true]
      split
      · rename_i hg'
        have r := root_in W t0 (show t < nT G by omega)
        exact ag_P L t0 (by omega) (hV _ _ _ _ _ _ ⟨Or.inr rfl, r.1, r.2.1, i0, by omega, j8, Or.inl ⟨(goB_spec hg').1, x3, x4, x5⟩⟩ hj)
      · exact ag_0 L
    by_cases hn : cov a c p q < nd G node
    · have z := (Q _ _ _ _ _ _ x1 (show c ≤ sz by omega)).2.1 hn
      rw [z, ag_B0 L vg]
      exact GV_0 (fun v ⟨t, _, _, _, w, _⟩ => w rfl)
    have gi := (gr_nn I x1 (by omega)).1
    by_cases hany : ∃ t, 0 ≤ t ∧ t < nT G ∧ goB G ou t (lb G node) 1 = true ∧ ¬ cov i j a c < nd G (ft G t)
    · obtain ⟨tt, tt0, tt1, ttg, ttc⟩ := hany
      obtain ⟨f1, f2, f3, -⟩ := around_items W h tt0 tt1 (goB_spec ttg).1 a0 a1 c0 c1
      have gd : gr G node i j p q - gr G node a c p q = 5 * cov i j a c := by unfold gr; omega
      have gt0 := (gr_nn I f2 (by omega)).1
      have gt1 := gr_round I (node := node) (i := i) (j := j) (p := p) (q := q) tt0 tt1 (goB_spec ttg).1 f3
      have gs : GV b (5 * cov i j a c) (gSum G ou (agS row) S dT (lb G node) i j a c) (fun v => ∃ t, 0 ≤ t ∧ t ≤ nT G - 1 ∧ (goB G ou t (lb G node) 1 = true ∧ S 1 (ft G t) i j a c ≠ 0 ∧ v = fv b (S 1 (ft G t) i j a c) + 1)) := by
        unfold gSum
        apply GV_I (by omega)
        intro t t0 t1
        rw [Bool.and_true]
        cases hg' : goB G ou t (lb G node) 1
        · rw [if_neg Bool.false_ne_true]
          exact GV_0 (fun v z => Bool.false_ne_true z.1)
        · rw [if_pos rfl]
          obtain ⟨f1, f2, f3, -⟩ := around_items W h t0 (show t < nT G by omega) (goB_spec hg').1 a0 a1 c0 c1
          have gq := gr_round I (node := node) (i := i) (j := j) (p := p) (q := q) t0 (show t < nT G by omega) (goB_spec hg').1 f3
          have := GV_P (t := t) (show 0 ≤ 5 * cov i j a c - 1 by omega) (by omega) t0 (by omega) (itemGV (b := b) I Q f2 hj (show gr G (ft G t) i j a c ≤ 5 * cov i j a c - 1 by omega) (by omega) (by omega))
          rw [show 5 * cov i j a c - 1 + 1 = 5 * cov i j a c by omega] at this
          exact GV_c this (fun v => ⟨fun ⟨u, hu, hv⟩ => ⟨rfl, hu.1, by rw [hv, hu.2]⟩, fun z => ⟨_, ⟨z.2.1, rfl⟩, z.2.2⟩⟩)
      have gb2 := itemGV (b := b) I Q x1 (show c ≤ sz by omega) (Int.le_refl _) gi (by omega)
      refine GV_c (GV_m (GV_B (by omega) gi (by omega) gs gb2) (by omega)) (fun v => ⟨?_, ?_⟩)
      · rintro ⟨u, w, ⟨t, t0, t1, hg', hz, hu⟩, ⟨hz2, hw⟩, hv⟩
        exact ⟨t, ⟨t0, t1⟩, hg', hz, hz2, by rw [hv, hu, hw]⟩
      · rintro ⟨t, ⟨t0, t1⟩, hg', hz, hz2, hv⟩
        exact ⟨_, _, ⟨t, t0, t1, hg', hz, rfl⟩, ⟨hz2, rfl⟩, hv⟩
    · have zr : ∀ t, 0 ≤ t → t < nT G → goB G ou t (lb G node) 1 = true → S 1 (ft G t) i j a c = 0 := by
        intro t t0 t1 hg'
        obtain ⟨f1, f2, f3, -⟩ := around_items W h t0 t1 (goB_spec hg').1 a0 a1 c0 c1
        exact (Q _ _ _ _ _ _ f2 hj).2.1 (Classical.byContradiction (fun z => hany ⟨t, t0, t1, hg', z⟩))
      have z1 : gSum G ou (agS row) S dT (lb G node) i j a c = 0 := by
        unfold gSum
        apply aI_zero L
        intro t t0 t1
        rw [Bool.and_true]
        split
        · rename_i hg'
          rw [zr t t0 (by omega) hg', ag_P0 L t0 (by omega)]
        · rfl
      rw [z1, ag_0B L vi]
      exact GV_0 (fun v ⟨t, ⟨t0, t1⟩, hg', hz, _⟩ => hz (zr t t0 (by omega) hg'))
  have round : GV b 50 (if mk G node = 1 then 0 else aRound G ou (agS row) S node i j p q) (fun v => mk G node ≠ 1 ∧ ∃ a, i ≤ a ∧ a ≤ (if p = -1 then j else p) ∧ ∃ c, (if p = -1 then a else q) ≤ c ∧ c ≤ j ∧ ∃ t, (0 ≤ t ∧ t ≤ nT G - 1) ∧ goB G ou t (lb G node) 1 = true ∧ S 1 (ft G t) i j a c ≠ 0 ∧ S 0 node a c p q ≠ 0 ∧ v = fv b (S 1 (ft G t) i j a c) + 1 + fv b (S 0 node a c p q)) := by
    by_cases hm : mk G node = 1
    · rw [if_pos hm]; exact GV_0 (fun v z => z.1 hm)
    · rw [if_neg hm]
      refine GV_c ?_ (fun v => ⟨fun z => ⟨hm, z⟩, fun z => z.2⟩)
      unfold aRound
      apply GV_I (by decide)
      intro a a0 a1
      apply GV_I (by decide)
      intro c c0 c1
      exact cell a a0 a1 c c0 c1
  rw [(Q _ _ _ _ _ _ h hj).2.2.2.2.2.2.2.2 hk rfl]
  refine IsB_c (GV_E (by decide) bare round).2.2 (fun v => ⟨?_, ?_⟩)
  · rintro (z | ⟨hm, a, a0, a1, c, c0, c1, t, ht, hg', x1, x2, x3⟩)
    · exact Or.inl z
    · exact Or.inr ⟨hm, t, ht, hg', a, ⟨a0, a1⟩, c, ⟨c0, c1⟩, x1, x2, x3⟩
  · rintro (z | ⟨hm, t, ht, hg', a, ⟨a0, a1⟩, c, ⟨c0, c1⟩, x1, x2, x3⟩)
    · exact Or.inl z
    · exact Or.inr ⟨hm, a, a0, a1, c, c0, c1, t, ht, hg', x1, x2, x3⟩
def TS (G : Gm) (ou : Int → Bool) (row : Int → Int) (S : SV) (b node i j p q : Int) : Int → Prop := fun v =>
  ∃ m, (i ≤ m ∧ m ≤ j) ∧ wSplit G (wW G ou row) node i m j p q ≠ 0 ∧ v = fv b (S 1 (c1 G node) i m (gp (sp G (c1 G node)) p) (gp (sp G (c1 G node)) q)) + fv b (S 1 (c2 G node) m j (gp (sp G (c2 G node)) p) (gp (sp G (c2 G node)) q))
theorem chS (I : GIn G) (Q : AEq G ou (agS row) r64 sz S) {node i j p q : Int} (h : itm G 0 node i j p q) (hj : j ≤ sz) (hk : kd G node = 0) (h2 : c2 G node ≠ -1) (hg : gr G node i j p q ≤ 50) : IsB b (qv b (S 0 node i j p q)) (TS G ou row S b node i j p q) := by
  have W := I.1
  have L := agS_law row
  rw [(Q _ _ _ _ _ _ h hj).2.2.2.2.2.2.2.1 hk rfl h2]
  have hV : ∀ half node i j p q, itm G half node i j p q → j ≤ sz → r64 (S half node i j p q) := fun _ _ _ _ _ _ a b => (Q _ _ _ _ _ _ a b).1
  have term : ∀ k, (if sp G (c1 G node) = 1 then q else i) ≤ k → k ≤ (if sp G (c1 G node) = 1 then j else if sp G node = 1 then p else j) → GV b 50 (aB (agS row) (S 1 (c1 G node) i k (gp (sp G (c1 G node)) p) (gp (sp G (c1 G node)) q)) (S 1 (c2 G node) k j (gp (sp G (c2 G node)) p) (gp (sp G (c2 G node)) q))) (fun v => wSplit G (wW G ou row) node i k j p q ≠ 0 ∧ v = fv b (S 1 (c1 G node) i k (gp (sp G (c1 G node)) p) (gp (sp G (c1 G node)) q)) + fv b (S 1 (c2 G node) k j (gp (sp G (c2 G node)) p) (gp (sp G (c2 G node)) q))) := by
    intro k k0 k1
    obtain ⟨f1, f2, f3⟩ := spl_itm W h hk h2 k0 k1
    obtain ⟨g1, g2, g3, g4⟩ := spl_rng W h hk h2 k0 k1
    have v1 := hV _ _ _ _ _ _ f1 (by omega)
    have v2 := hV _ _ _ _ _ _ f2 hj
    by_cases hn : cov i k (gp (sp G (c1 G node)) p) (gp (sp G (c1 G node)) q) < nd G (c1 G node) ∨ cov k j (gp (sp G (c2 G node)) p) (gp (sp G (c2 G node)) q) < nd G (c2 G node)
    · have zs : wSplit G (wW G ou row) node i k j p q = 0 := by
        unfold wSplit
        rw [if_neg (fun z => by have := z.2.2; omega)]
      have za : aB (agS row) (S 1 (c1 G node) i k (gp (sp G (c1 G node)) p) (gp (sp G (c1 G node)) q)) (S 1 (c2 G node) k j (gp (sp G (c2 G node)) p) (gp (sp G (c2 G node)) q)) = 0 := by
        rcases hn with z | z
        · rw [(Q _ _ _ _ _ _ f1 (by omega)).2.1 z, ag_0B L v2]
        · rw [(Q _ _ _ _ _ _ f2 hj).2.1 z, ag_B0 L v1]
      rw [za]
      exact GV_0 (fun v z => z.1 zs)
    · have ga := (gr_nn I f1 (by omega)).1
      have gb := (gr_nn I f2 (by omega)).1
      have gs := gr_split I h.2.1 h.2.2.1 hk h2 f3
      have r1 := itemGV (b := b) I Q f1 (by omega) (Int.le_refl _) ga (by omega)
      have r2 := itemGV (b := b) I Q f2 hj (Int.le_refl _) gb (by omega)
      have z1 := S_z I Q f1 (by omega) (by omega)
      have z2 := S_z I Q f2 hj (by omega)
      have ws : wSplit G (wW G ou row) node i k j p q ≠ 0 ↔ (S 1 (c1 G node) i k (gp (sp G (c1 G node)) p) (gp (sp G (c1 G node)) q) ≠ 0 ∧ S 1 (c2 G node) k j (gp (sp G (c2 G node)) p) (gp (sp G (c2 G node)) q) ≠ 0) := by
        unfold wSplit
        rw [if_pos ⟨g3, g4, by omega, by omega⟩, Nat.mul_ne_zero_iff, Ne, Ne, ← z1, ← z2]
      refine GV_c (GV_m (GV_B ga gb (by omega) r1 r2) (by omega)) (fun v => ⟨?_, ?_⟩)
      · rintro ⟨u, w, ⟨hu, eu⟩, ⟨hw, ew⟩, hv⟩
        exact ⟨ws.mpr ⟨hu, hw⟩, by rw [hv, eu, ew]⟩
      · rintro ⟨hz, hv⟩
        exact ⟨_, _, ⟨(ws.mp hz).1, rfl⟩, ⟨(ws.mp hz).2, rfl⟩, hv⟩
  unfold aSplit
  refine IsB_c (GV_I (lt := row) (by decide) term).2.2 (fun v => ⟨?_, ?_⟩)
  · rintro ⟨k, k0, k1, hz, hv⟩
    obtain ⟨g1, g2, -⟩ := spl_rng W h hk h2 k0 k1
    exact ⟨k, ⟨g1, g2⟩, hz, hv⟩
  · rintro ⟨k, ⟨k0, k1⟩, hz, hv⟩
    obtain ⟨hh, n0, n1, i0, ij, j8, d⟩ := id h
    have hch := wf_ch W n0 n1 hk
    have q2 : c1 G node < c2 G node ∧ c2 G node < ft G (tr G node + 1) := by
      rcases hch.2.2 with q2 | q2
      · exact absurd q2 h2
      · exact q2
    have a1 := child_in W n0 n1 hch.1 hch.2.1
    have a2 := child_in W n0 n1 (by omega) q2.2
    have s0 := (wf_sp W n0 n1).2.2.2 hk
    rw [if_neg h2] at s0
    have s1 := (wf_sp W a1.1 a1.2.1).1
    have s2 := (wf_sp W a2.1 a2.2.1).1
    have sn := (wf_sp W n0 n1).1
    have cs : ¬ (sp G (c1 G node) = 1 ∧ k < q) ∧ ¬ (sp G (c2 G node) = 1 ∧ p < k) := by
      refine Classical.byContradiction (fun hne => hz ?_)
      unfold wSplit
      rw [if_neg (fun z => hne ⟨z.1, z.2.1⟩)]
    refine ⟨k, ?_, ?_, hz, hv⟩
    · by_cases z1 : sp G (c1 G node) = 1
      · rw [if_pos z1]; have := cs.1; omega
      · rw [if_neg z1]; exact k0
    · by_cases z1 : sp G (c1 G node) = 1
      · rw [if_pos z1]; exact k1
      · rw [if_neg z1]
        by_cases z2 : sp G node = 1
        · rw [if_pos z2]; have := cs.2; omega
        · rw [if_neg z2]; exact k1
def TH (G : Gm) (ou : Int → Bool) (S : SV) (b l i j : Int) : Int → Prop := fun v => ∃ t, (0 ≤ t ∧ t ≤ nT G - 1) ∧ goB G ou t l 0 = true ∧ S 1 (ft G t) i j (-1) (-1) ≠ 0 ∧ v = fv b (S 1 (ft G t) i j (-1) (-1)) + 1
theorem chH (I : GIn G) (Q : AEq G ou (agS row) r64 sz S) {l i j : Int} (i0 : 0 ≤ i) (ij : i ≤ j) (j8 : j ≤ 8) (hj : j ≤ sz) (hg : ∀ t, 0 ≤ t → t < nT G → sp G (ft G t) = 0 → gr G (ft G t) i j (-1) (-1) ≤ 49) : IsB b (qv b (aHosts G ou (agS row) S l i j)) (TH G ou S b l i j) := by
  have W := I.1
  have nt := wf_nt W
  have term : ∀ t, 0 ≤ t → t ≤ nT G - 1 → GV b 50 (if goB G ou t l 0 then aP (agS row) t (S 1 (ft G t) i j (-1) (-1)) else 0) (fun v => goB G ou t l 0 = true ∧ S 1 (ft G t) i j (-1) (-1) ≠ 0 ∧ v = fv b (S 1 (ft G t) i j (-1) (-1)) + 1) := by
    intro t t0 t1
    cases hg' : goB G ou t l 0
    · rw [if_neg Bool.false_ne_true]
      exact GV_0 (fun v z => Bool.false_ne_true z.1)
    · rw [if_pos rfl]
      have hs := (goB_spec hg').1
      have hi := root_item W (i := i) (j := j) t0 (show t < nT G by omega) hs i0 ij j8
      have := GV_P (t := t) (show (0 : Int) ≤ 49 by decide) (by decide) t0 (by omega) (itemGV (b := b) I Q hi hj (hg t t0 (by omega) hs) (by decide) (by decide))
      exact GV_c this (fun v => ⟨fun ⟨u, hu, hv⟩ => ⟨rfl, hu.1, by rw [hv, hu.2]⟩, fun z => ⟨_, ⟨z.2.1, rfl⟩, z.2.2⟩⟩)
  unfold aHosts
  exact IsB_c (GV_I (lt := row) (by decide) term).2.2 (fun v => ⟨fun ⟨t, a, c, d⟩ => ⟨t, ⟨a, c⟩, d⟩, fun ⟨t, ⟨a, c⟩, d⟩ => ⟨t, a, c, d⟩⟩)
end
