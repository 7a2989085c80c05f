section
variable {h : Hp} {o P sz : Int} {G : Gm} {ou : Int → Bool} {A : Ag} {V : Int → Prop} {S : SV} {D : SD}
theorem rnd_items (W : WF G) {node i j p q a b : Int} (hi : itm G 1 node i j p q) (a0 : i ≤ a) (a1 : a ≤ (if p = -1 then j else p)) (b0 : (if p = -1 then a else q) ≤ b) (b1 : b ≤ j) : itm G 0 node a b p q ∧ a ≤ b := by
  obtain ⟨hh, n0, n1, i0, ij, j8, d⟩ := hi
  rcases d with ⟨s1, d1, d2, d3⟩ | ⟨s0, rfl, rfl⟩
  · rw [if_neg (by omega)] at a1 b0
    exact ⟨⟨Or.inl rfl, n0, n1, by omega, by omega, by omega, Or.inl ⟨s1, a1, d2, b0⟩⟩, by omega⟩
  · rw [if_pos rfl] at a1 b0
    exact ⟨⟨Or.inl rfl, n0, n1, by omega, by omega, by omega, Or.inr ⟨s0, rfl, rfl⟩⟩, b0⟩
theorem rnd_bnd {node i j p q : Int} (hi : itm G 1 node i j p q) : cc p j = (if p = -1 then j else p) ∧ i ≤ cc p j ∧ cc p j ≤ j ∧ (∀ a, a ≤ cc p j → (if sp G node = 0 then a else cc q j) = (if p = -1 then a else q) ∧ (if p = -1 then a else q) ≤ j) ∧ (sp G node = 0 ↔ p = -1) := by
  obtain ⟨hh, n0, n1, i0, ij, j8, d⟩ := hi
  unfold cc
  rcases d with ⟨s1, d1, d2, d3⟩ | ⟨s0, rfl, rfl⟩
  · rw [if_neg (show ¬ p = -1 by omega), if_neg (show ¬ q = -1 by omega)]
    refine ⟨rfl, by omega, by omega, fun a ha => ?_, by omega⟩
    rw [if_neg (by omega), if_neg (by omega)]
    exact ⟨rfl, by omega⟩
  · rw [if_pos rfl]
    refine ⟨rfl, by omega, by omega, fun a ha => ?_, by omega⟩
    rw [if_pos s0, if_pos rfl]
    exact ⟨rfl, ha⟩
theorem round_V (E : Ev h o P G sz ou A V) (Q : AEq G ou A V sz S) {node i j p q : Int} (hi : itm G 1 node i j p q) (hj : j ≤ sz) (l : Int) : ∀ a, i ≤ a → a ≤ (if p = -1 then j else p) → (∀ b, (if p = -1 then a else q) ≤ b → b ≤ j → V (gSum G ou A S dT l i j a b) ∧ V (S 0 node a b p q)) ∧ V (aI A (fun b => aB A (gSum G ou A S dT l i j a b) (S 0 node a b p q)) (if p = -1 then a else q) j) := by
  intro a a0 a1
  have L := E.2.2.2.1
  have z8 := E.2.2.1.2.2.2.2.2.2
  have x : ∀ b, (if p = -1 then a else q) ≤ b → b ≤ j → V (gSum G ou A S dT l i j a b) ∧ V (S 0 node a b p q) := by
    intro b b0 b1
    obtain ⟨f, g⟩ := rnd_items E.1 hi a0 a1 b0 b1
    exact ⟨gSum_V L E.1 Q hi.2.2.2.1 a0 g b1 hj z8 dT, (Q _ _ _ _ _ _ f (by omega)).1⟩
  exact ⟨x, aI_V L (fun b b0 b1 => ag_B L (x b b0 b1).1 (x b b0 b1).2)⟩
theorem above_inner (E : Ev h o P G sz ou A V) (Q : AEq G ou A V sz S) (T : Tab h o P G sz ou A S D) {node i j p q a t l acc : Int} (hi : itm G 1 node i j p q) (hj : j ≤ sz) (ho : ou (tr G node) = false)
    (hD : ∀ half' node' i' j' p' q', itm G half' node' i' j' p' q' → bef G node' i' j' p' q' node i j p q → D half' node' i' j' p' q' = true)
    (a0 : i ≤ a) (a1 : a ≤ cc p j) (t0 : 0 ≤ t) (t1 : t < nT G) (hg : goB G ou t l 1 = true) (g0 : 0 ≤ gRo (h (P + 13) l)) (g1 : gRo (h (P + 13) l) + 495 ≤ 3960) (va : V acc) :
    Ch_waysAbove_L99 o i j (cc p j) (cc q j) (rwN G 0 node) (gRo (h (P + 13) l)) (sp G node) h acc a = some (.inl (aE A acc (aI A (fun b => aB A (gSum G ou A S dT l i j a b) (S 0 node a b p q)) (if p = -1 then a else q) j), a + 1)) := by
  have L := E.2.2.2.1
  have W := E.1
  have z8 := E.2.2.1.2.2.2.2.2.2
  obtain ⟨c1, c2, c3, c4, c5⟩ := rnd_bnd hi
  obtain ⟨l1, l2⟩ := c4 a a1
  have a1' : a ≤ (if p = -1 then j else p) := by rw [← c1]; exact a1
  have i0 := hi.2.2.2.1
  have n0 := hi.2.1
  have n1 := hi.2.2.1
  obtain ⟨v, -⟩ := round_V E Q hi hj l a a0 a1'
  have lo0 : a ≤ (if p = -1 then a else q) := by
    rcases hi.2.2.2.2.2.2 with ⟨s1, d1, d2, d3⟩ | ⟨s0, rfl, rfl⟩
    · rw [if_neg (by omega)] at a1' ⊢; omega
    · rw [if_pos rfl]; omega
  unfold Ch_waysAbove_L99 Ch_waysAbove_j118
  rw [if_neg (by omega), l1]
  rw [acc_lp L (f := fun b => aB A (gSum G ou A S dT l i j a b) (S 0 node a b p q)) (lo := if p = -1 then a else q) (hi := j) (acc0 := acc) (by omega) (by omega) va (fun b b0 b1 => ag_B L (v b b0 b1).1 (v b b0 b1).2) (by
    intro acc' b b0 b1 va'
    obtain ⟨ib, ab⟩ := rnd_items W hi a0 a1' b0 b1
    have cb := cc_in ib
    have k1 := cI_495 cb.1 cb.2.1 cb.2.2.1 cb.2.2.2 (by omega)
    have k2 := cI_495 i0 a0 ab b1 (by omega)
    have r1 := rwN_in W n0 n1 (half := 0) (Or.inl rfl)
    obtain ⟨g1', g2', g3'⟩ := around_logic E Q hi hj ho hD a0 a1' b0 b1 ib l
    refine above_step E (x := gSum G ou A S D l i j a b) (y := tY G ou S D 0 node a b p q) (c := cI a b (cc p b) (cc q b)) (d := cI i j a b) b1 (by omega) (by omega) va' (v b b0 b1).1 (v b b0 b1).2 ?_ ?_ (by omega) (by omega) (Ch_cell_ok i0 a0 ab b1 (by omega)) ?_ (by omega) (by omega) g1' g2' g3'
    · have hc := Ch_cell_ok cb.1 cb.2.1 cb.2.2.1 cb.2.2.2 (show b ≤ 8 by omega)
      rcases hi.2.2.2.2.2.2 with ⟨s1, d1, d2, d3⟩ | ⟨s0, rfl, rfl⟩
      · rw [if_neg (by omega), ← hc, cc_yes b (by omega), cc_yes b (by omega), cc_yes j (by omega), cc_yes j (by omega)]
      · rw [if_pos s0, ← hc, cc_no]
    · exact T.1 _ _ _ _ _ _ ib (by omega)
    · exact T.2.2 t l i j a b t0 t1 hg i0 a0 ab b1 hj) (by
    intro acc' va'
    unfold Ch_waysAbove_L120
    rw [if_pos (by omega)]), ob_some]
  rw [show w32 (a + 1) = a + 1 by unfold w32; omega]
theorem Ch_waysAbove_ok (E : Ev h o P G sz ou A V) (Q : AEq G ou A V sz S) (T : Tab h o P G sz ou A S D) {node i j p q : Int} (hi : itm G 1 node i j p q) (hj : j ≤ sz) (hk : kd G node = 0) (ho : ou (tr G node) = false) (h0 : D 0 node i j p q = true)
    (hD : ∀ half' node' i' j' p' q', itm G half' node' i' j' p' q' → bef G node' i' j' p' q' node i j p q → D half' node' i' j' p' q' = true) :
    Ch_waysAbove o node i j (cc p j) (cc q j) h = some (S 1 node i j p q) := by
  have E' := E
  obtain ⟨W, R, C, L, _, U⟩ := E
  obtain ⟨k0, k1, k2, k3, k4, k5, k6, k7, k8, k9, k10, k11, k12, k13⟩ := GrO_k R.1
  have c0 := ChO_k C.1
  have nn := wf_nn W
  have n0 := hi.2.1
  have n1 := hi.2.2.1
  have z8 := C.2.2.2.2.2.2
  have rr := R.2.2.2.2.2.1 node n0 n1
  have e9 : h P 9 = P + 4 := R.2.1.2.2.2.1
  have e10 : h P 10 = P + 5 := R.2.1.2.2.2.2.1
  have e15 : h P 15 = P + 10 := R.2.1.2.2.2.2.2.2.2.2.2.1
  have f4 : h (P + 4) node = lb G node := rr.2.2.1
  have f5 : h (P + 5) node = mk G node := rr.2.2.2.1
  have f10 : h (P + 10) node = sp G node := rr.2.2.2.2.2.2.2.2
  have lbi := (wf_lb W n0 n1).1 (by omega)
  obtain ⟨h0i, -⟩ := half_item hi
  have v0 := (Q _ _ _ _ _ _ h0i hj).1
  have ci := cc_in hi
  have q9 := (Q _ _ _ _ _ _ hi hj).2.2.2.2.2.2.2.2 hk rfl
  have hr := Ch_row_ok E' n0 n1 (half := 0) (Or.inl rfl)
  have r1 := rwN_in W n0 n1 (half := 0) (Or.inl rfl)
  have kc := cI_495 ci.1 ci.2.1 ci.2.2.1 ci.2.2.2 (by omega)
  have hv := T.1 _ _ _ _ _ _ h0i hj
  rw [if_pos ⟨ho, h0⟩] at hv
  unfold tv at hv
  have cell := Ch_cell_ok ci.1 ci.2.1 ci.2.2.1 ci.2.2.2 (show j ≤ 8 by omega)
  have ew : w32 (rwN G 0 node + cI i j (cc p j) (cc q j)) = rwN G 0 node + cI i j (cc p j) (cc q j) := by unfold w32; omega
  have top : ∀ s, V s → Ch_waysAbove_j42 o node i j (cc p j) (cc q j) (rwN G 0 node) s h = some (aE A s (if mk G node = 1 then 0 else aRound G ou A S node i j p q)) := by
    intro s vs
    unfold Ch_waysAbove_j42 Ch_waysAbove_j74
    rw [C.2.1, e9, e10, e15, f4, f5, f10, if_pos c0.1, if_pos k0, if_pos ⟨k5.1, n0, by rw [k5.2]; omega⟩]
    by_cases hm : mk G node = 1
    · rw [if_pos hm, if_pos rfl, if_pos hm, ag_E0 L vs]
    · rw [if_neg hm, if_pos ⟨k4.1, n0, by rw [k4.2]; omega⟩, if_neg hm]
      obtain ⟨c1, c2, c3, c4, c5⟩ := rnd_bnd hi
      rcases guestRow_ok E' lbi.1 lbi.2 with ⟨e, hno⟩ | ⟨t, t0, t1, hg, e, g0, g1⟩
      · rw [e, ob_some, if_pos rfl]
        have : aRound G ou A S node i j p q = 0 := by
          unfold aRound
          apply aI_zero L
          intro a a0 a1
          apply aI_zero L
          intro b b0 b1
          have gz : gSum G ou A S dT (lb G node) i j a b = 0 := by
            unfold gSum
            apply aI_zero L
            intro t t0 t1
            rw [hno t t0 (by omega)]
            rfl
          rw [gz, ag_0B L ((round_V E' Q hi hj (lb G node) a a0 a1).1 b b0 b1).2]
        rw [this, ag_E0 L vs]
      · rw [e, ob_some, if_neg (by omega), if_pos c0.1, if_pos k0, if_pos ⟨k10.1, n0, by rw [k10.2]; omega⟩]
        rw [acc_lp L (f := fun a => aI A (fun b => aB A (gSum G ou A S dT (lb G node) i j a b) (S 0 node a b p q)) (if p = -1 then a else q) j) (lo := i) (hi := cc p j) (acc0 := s) (by omega) (by omega) vs (fun a a0 a1 => (round_V E' Q hi hj (lb G node) a a0 (by rw [← c1]; exact a1)).2) (by
          intro acc a a0 a1 va
          exact above_inner E' Q T hi hj ho hD a0 a1 t0 t1 hg g0 g1 va) (by
          intro acc va
          unfold Ch_waysAbove_L99
          rw [if_pos (by omega)]), ob_some, c1]
        rfl
  unfold Ch_waysAbove
  rw [if_pos c0.1, hr, ob_some, C.2.1, e10, f5, if_pos k0, if_pos ⟨k5.1, n0, by rw [k5.2]; omega⟩, q9]
  by_cases hm : mk G node = 2
  · rw [if_pos hm, top 0 (ag_0 L), if_pos hm]
  · rw [if_neg hm, cell, ob_some, ew, C.2.2.2.1, if_pos ⟨c0.2.1.1, by omega, by rw [c0.2.1.2]; omega⟩, hv, top _ v0, if_neg hm]
end
