section
variable {h : Hp} {o P sz : Int} {G : Gm} {ou : Int → Bool} {A : Ag} {V : Int → Prop} {S : SV} {D : SD}
theorem above_step (E : Ev h o P G sz ou A V) {x y s1 s2 acc i j p' q' bl gr fo a b c d : Int} (hb : b ≤ j) (b8 : b < 1000) (b0 : -1000 < b) (va : V acc) (v1 : V s1) (v2 : V s2)
    (ec : (if fo = 0 then Ch_cell a b b b else Ch_cell a b p' q') = some c) (hy : h (o + 15) (bl + c) = y) (c0 : 0 ≤ bl + c) (c1 : bl + c < 39600) (ed : Ch_cell i j a b = some d) (hx : h (o + 16) (gr + d) = x) (d0 : 0 ≤ gr + d) (d1 : gr + d < 3960)
    (l1 : y = 0 → aB A s1 s2 = 0) (l2 : x = 0 → aB A s1 s2 = 0) (l3 : x ≠ 0 → y ≠ 0 → x = s1 ∧ y = s2) :
    Ch_waysAbove_L120 o i j p' q' bl gr fo a h acc b = some (.inl (aE A acc (aB A s1 s2), b + 1)) := by
  have k0 := ChO_k E.2.2.1.1
  have L := E.2.2.2.1
  have R := agr E
  have C := E.2.2.1
  have ew : w32 (b + 1) = b + 1 := by unfold w32; omega
  have e1 : w32 (bl + c) = bl + c := by unfold w32; omega
  have e2 : w32 (gr + d) = gr + d := by unfold w32; omega
  unfold Ch_waysAbove_L120
  rw [if_neg (by omega), if_pos k0.1]
  have m1 : (if fo = 0 then ob (Ch_cell a b b b) (fun r159 => Ch_waysAbove_j162 o i j p' q' bl acc gr fo a b r159 bl (h o 4) h) else ob (Ch_cell a b p' q') (fun r145 => Ch_waysAbove_j162 o i j p' q' bl acc gr fo a b r145 bl (h o 4) h)) = Ch_waysAbove_j162 o i j p' q' bl acc gr fo a b c bl (h o 4) h := by
    split at ec
    · rename_i hg; rw [if_pos hg, ec, ob_some]
    · rename_i hg; rw [if_neg hg, ec, ob_some]
  rw [m1]
  unfold Ch_waysAbove_j162 Ch_waysAbove_j224 Ch_waysAbove_j226
  rw [C.2.2.2.1, C.2.2.2.2.1, e1, hy, if_pos ⟨k0.2.1.1, c0, by rw [k0.2.1.2]; exact c1⟩, ew]
  by_cases hy0 : y = 0
  · rw [if_pos hy0, l1 hy0, ag_E0 L va]
  · rw [if_neg hy0, if_pos k0.1, ed, ob_some, e2, hx, if_pos ⟨k0.2.2.1, d0, by rw [k0.2.2.2]; exact d1⟩]
    by_cases hx0 : x = 0
    · rw [if_pos hx0, l2 hx0, ag_E0 L va]
    · obtain ⟨z1, z2⟩ := l3 hx0 hy0
      subst z1 z2
      rw [if_neg hx0, (R.1 x y v1 v2).2, ob_some, (R.1 acc _ va (ag_B L v1 v2)).1, ob_some]
theorem gSum_V (L : AgL A V) (W : WF G) (Q : AEq G ou A V sz S) {l i j a b : Int} (i0 : 0 ≤ i) (ia : i ≤ a) (ab : a ≤ b) (bj : b ≤ j) (hj : j ≤ sz) (z8 : sz ≤ 8) (D : SD) : V (gSum G ou A S D l i j a b) := by
  have nt := wf_nt W
  apply aI_V L
  intro t t0 t1
  split
  · rename_i hg
    simp only [Bool.and_eq_true] at hg
    have g := goB_spec hg.1
    have r := root_in W t0 (show t < nT G by omega)
    refine ag_P L t0 (by omega) (Q 1 (ft G t) i j a b ⟨Or.inr rfl, r.1, r.2.1, i0, by omega, by omega, Or.inl ⟨g.1, ia, ab, bj⟩⟩ hj).1
  · exact ag_0 L
/-- what a guest put around brings, on the way and at the end -/
theorem around_logic (E : Ev h o P G sz ou A V) (Q : AEq G ou A V sz S) {node i j p q a b : Int} (hi : itm G 1 node i j p q) (hj : j ≤ sz) (ho : ou (tr G node) = false)
    (hD : ∀ half' node' i' j' p' q', itm G half' node' i' j' p' q' → bef G node' i' j' p' q' node i j p q → D half' node' i' j' p' q' = true)
    (a0 : i ≤ a) (a1 : a ≤ (if p = -1 then j else p)) (b0 : (if p = -1 then a else q) ≤ b) (b1 : b ≤ j) (ia : itm G 0 node a b p q) (lq : Int) :
    (tY G ou S D 0 node a b p q = 0 → aB A (gSum G ou A S dT lq i j a b) (S 0 node a b p q) = 0) ∧ (gSum G ou A S D lq i j a b = 0 → aB A (gSum G ou A S dT lq i j a b) (S 0 node a b p q) = 0) ∧
    (gSum G ou A S D lq i j a b ≠ 0 → tY G ou S D 0 node a b p q ≠ 0 → gSum G ou A S D lq i j a b = gSum G ou A S dT lq i j a b ∧ tY G ou S D 0 node a b p q = S 0 node a b p q) := by
  have W := E.1
  have L := E.2.2.2.1
  have nt := wf_nt W
  have z8 := E.2.2.1.2.2.2.2.2.2
  have hab : a ≤ b := ia.2.2.2.2.1
  have v2 := (Q _ _ _ _ _ _ ia (by omega)).1
  have v1 := gSum_V (l := lq) L W Q hi.2.2.2.1 a0 hab b1 hj z8 dT
  by_cases hz : S 0 node a b p q = 0
  · refine ⟨fun _ => by rw [hz, ag_B0 L v1], fun _ => by rw [hz, ag_B0 L v1], fun _ hn => ?_⟩
    exfalso
    rcases tY_or (G := G) (ou := ou) (S := S) (D := D) (half := 0) (node := node) (i := a) (j := b) (p := p) (q := q) with z | z
    · exact hn (by rw [z, hz])
    · exact hn z
  · have w2 : nd G node ≤ cov a b p q := by
      apply Int.not_lt.mp
      intro hlt
      exact hz ((Q _ _ _ _ _ _ ia (by omega)).2.1 hlt)
    have key : ∀ t, 0 ≤ t → t < nT G → goB G ou t lq 1 = true → S 1 (ft G t) i j a b ≠ 0 → D 0 node a b p q = true ∧ D 1 (ft G t) i j a b = true := by
      intro t t0 t1 hg hs
      have g := goB_spec hg
      obtain ⟨f1, f2, f3, -⟩ := around_items W hi t0 t1 g.1 a0 a1 b0 b1
      have w1 : nd G (ft G t) ≤ cov i j a b := by
        apply Int.not_lt.mp
        intro hlt
        exact hs ((Q _ _ _ _ _ _ f2 hj).2.1 hlt)
      obtain ⟨u1, u2⟩ := bef_around W hi t0 t1 g.1 f1 f2 f3 w1 w2
      exact ⟨hD _ _ _ _ _ _ f1 u1, hD _ _ _ _ _ _ f2 u2⟩
    have same : gSum G ou A S D lq i j a b = gSum G ou A S dT lq i j a b := by
      unfold gSum
      apply aI_congr
      intro t t0 t1
      cases hg : goB G ou t lq 1
      · rfl
      · by_cases hs : S 1 (ft G t) i j a b = 0
        · simp only [hs, ag_P0 L t0 (show t < 8 by omega), ite_self]
        · rw [(key t t0 (by omega) hg hs).2]
    rw [same]
    by_cases h1 : gSum G ou A S dT lq i j a b = 0
    · rw [h1]
      exact ⟨fun _ => ag_0B L v2, fun _ => ag_0B L v2, fun hn => absurd rfl hn⟩
    · have hD0 : D 0 node a b p q = true := by
        apply Classical.byContradiction
        intro hne
        apply h1
        apply aI_zero L
        intro t t0 t1
        cases hg : goB G ou t lq 1
        · rfl
        · by_cases hs : S 1 (ft G t) i j a b = 0
          · simp only [hs, ag_P0 L t0 (show t < 8 by omega), ite_self]
          · exact absurd (key t t0 (by omega) hg hs).1 hne
      rw [tY_is ho hD0]
      exact ⟨fun z => absurd z hz, fun z => absurd z h1, fun _ _ => ⟨rfl, rfl⟩⟩
end
