/-! the class: one cell of a branch -/
def dX (D : SD) (m node i j p q : Int) : SD := fun half' node' i' j' p' q' => D half' node' i' j' p' q' || decide (node' = node ∧ i' = i ∧ j' = j ∧ p' = p ∧ q' = q ∧ half' ≤ m)
section
variable {h : Hp} {o P sz : Int} {G : Gm} {ou : Int → Bool} {A : Ag} {V : Int → Prop} {S : SV} {D : SD}
theorem dX_no {m node i j p q half' node' i' j' p' q' : Int} (e : ¬ (node' = node ∧ i' = i ∧ j' = j ∧ p' = p ∧ q' = q ∧ half' ≤ m)) : dX D m node i j p q half' node' i' j' p' q' = D half' node' i' j' p' q' := by
  unfold dX; rw [decide_eq_false e, Bool.or_false]
theorem dX_yes {m node i j p q half' : Int} (e : half' ≤ m) : dX D m node i j p q half' node i j p q = true := by
  unfold dX; rw [decide_eq_true ⟨rfl, rfl, rfl, rfl, rfl, e⟩, Bool.or_true]
theorem dX_up {m node i j p q half' node' i' j' p' q' : Int} (e : D half' node' i' j' p' q' = true) : dX D m node i j p q half' node' i' j' p' q' = true := by
  unfold dX; rw [e]; rfl
theorem branch_cell (E : Ev h o P G sz ou A V) (Q : AEq G ou A V sz S) (T : Tab h o P G sz ou A S D) {node i j p q c fo gu w gap : Int} (hi : itm G 1 node i j p q) (hj : j ≤ sz) (hk : kd G node = 0) (ho : ou (tr G node) = false) (d0 : D 1 node i j p q = false)
    (hD : ∀ half' node' i' j' p' q', itm G half' node' i' j' p' q' → bef G node' i' j' p' q' node i j p q → D half' node' i' j' p' q' = true)
    (eg : cc p j + gap = cc q j) (hgu : (gu = 0 ∧ ¬ (sp G node = 1 ∧ node = ft G (tr G node))) ∨ (gu = 1 ∧ sp G node = 1 ∧ node = ft G (tr G node))) :
    ∃ h', Ch_fillBranch_L108 o node c fo gu i w j gap (cc p j) h = some (.inl (cc p j + 1, h')) ∧ Off o h h' ∧ Tab h' o P G sz ou A S (dX D 1 node i j p q) := by
  have W := E.1
  have L := E.2.2.2.1
  have C := E.2.2.1
  have z8 := C.2.2.2.2.2.2
  have kc := ChO_k C.1
  have n0 := hi.2.1
  have n1 := hi.2.2.1
  have trn := wf_tr W n0 n1
  obtain ⟨hi0, -⟩ := half_item hi
  have ci := cc_in hi
  have cin := cI_495 ci.1 ci.2.1 ci.2.2.1 ci.2.2.2 (show j ≤ 8 by omega)
  have cell := Ch_cell_ok ci.1 ci.2.1 ci.2.2.1 ci.2.2.2 (show j ≤ 8 by omega)
  have r0 := rwN_in W n0 n1 (half := 0) (Or.inl rfl)
  have r1 := rwN_in W n0 n1 (half := 1) (Or.inr rfl)
  have ewq : w32 (cc p j + gap) = cc q j := by rw [eg]; unfold w32; omega
  have ewp : w32 (cc p j + 1) = cc p j + 1 := by unfold w32; omega
  have ew0 : w32 (rwN G 0 node + cI i j (cc p j) (cc q j)) = rwN G 0 node + cI i j (cc p j) (cc q j) := by unfold w32; omega
  have ew1 : w32 (rwN G 1 node + cI i j (cc p j) (cc q j)) = rwN G 1 node + cI i j (cc p j) (cc q j) := by unfold w32; omega
  have below := Ch_waysBelow_ok E Q T hi0 hj hk ho hD
  have T0 := Tab_put E T (D' := dX D 0 node i j p q) (v := S 0 node i j p q) hi0 hj ho rfl (fun z => absurd hk z) (fun half' hh z => by rw [z hk]; exact dX_yes (by omega)) (by
    intro half' node' i' j' p' q' hi' hne
    refine dX_no (fun z => hne ⟨z.1, z.2.1, z.2.2.1, z.2.2.2.1, z.2.2.2.2.1, fun _ => ?_⟩)
    have := hi'.1
    omega) (by
    intro t l i' j' a b t0 t1 hg _ _ _ _ _
    apply gSum_same E
    intro u u0 u1 hu
    left
    exact dX_no (fun z => absurd z.2.2.2.2.2 (by omega)))
  have E1 := E.off (Off.p1 (s := rwN G 0 node + cI i j (cc p j) (cc q j)) (v := S 0 node i j p q))
  have off1 : Off o h (hput h (o + 15) (rwN G 0 node + cI i j (cc p j) (cc q j)) (S 0 node i j p q)) := Off.p1
  have row0 := Ch_row_ok E n0 n1 (half := 0) (Or.inl rfl)
  have e4 := C.2.2.2.1
  unfold Ch_fillBranch_L108 Ch_fillBranch_j219
  rw [ewq, if_neg (by omega), cell, ob_some, if_pos kc.1, row0, ob_some, below, ob_some, ew0, e4, if_pos ⟨kc.2.1.1, by omega, by rw [kc.2.1.2]; omega⟩, ewp]
  simp only
  generalize hput h (o + 15) (rwN G 0 node + cI i j (cc p j) (cc q j)) (S 0 node i j p q) = H at *
  have above := Ch_waysAbove_ok E1 Q T0 hi hj hk ho (dX_yes (by omega)) (fun half' node' i' j' p' q' hi' hb => dX_up (hD _ _ _ _ _ _ hi' hb))
  have row1 := Ch_row_ok E1 n0 n1 (half := 1) (Or.inr rfl)
  rw [above, ob_some, row1, ob_some, ew1, E1.2.2.1.2.2.2.1, if_pos ⟨kc.2.1.1, by omega, by rw [kc.2.1.2]; omega⟩]
  have d0' : dX D 0 node i j p q 1 node i j p q = false := by
    rw [dX_no (fun z => absurd z.2.2.2.2.2 (by omega))]; exact d0
  have plain : (∀ l i' j' a b u, 0 ≤ u → u < nT G → goB G ou u l 1 = true → dX D 1 node i j p q 1 (ft G u) i' j' a b = dX D 0 node i j p q 1 (ft G u) i' j' a b ∨ S 1 (ft G u) i' j' a b = 0) → Tab (hput H (o + 15) (rwN G 1 node + cI i j (cc p j) (cc q j)) (S 1 node i j p q)) o P G sz ou A S (dX D 1 node i j p q) := by
    intro hsame
    refine Tab_put E1 T0 (D' := dX D 1 node i j p q) hi hj ho rfl (fun z => absurd hk z) (fun half' hh z => by rw [z hk]; exact dX_yes (by omega)) ?_ ?_
    · intro half' node' i' j' p' q' hi' hne
      by_cases hz : node' = node ∧ i' = i ∧ j' = j ∧ p' = p ∧ q' = q ∧ half' ≤ 0
      · obtain ⟨rfl, rfl, rfl, rfl, rfl, hz⟩ := hz
        rw [dX_yes hz, dX_yes (by omega)]
      · rw [dX_no hz, dX_no]
        rintro ⟨z1, z2, z3, z4, z5, z6⟩
        have := hi'.1
        by_cases hh : half' = 1
        · exact hne ⟨z1, z2, z3, z4, z5, fun _ => hh⟩
        · exact hz ⟨z1, z2, z3, z4, z5, by omega⟩
    · intro t l i' j' a b t0 t1 hg _ _ _ _ _
      exact gSum_same E1 (fun u u0 u1 hu => hsame l i' j' a b u u0 u1 hu)
  rcases hgu with ⟨rfl, hng⟩ | ⟨rfl, hs, hrt⟩
  · rw [if_pos rfl]
    refine ⟨_, rfl, off1.tr Off.p1, plain ?_⟩
    intro l i' j' a b u u0 u1 hu
    left
    have ru := root_in W u0 u1
    have hne : ft G u ≠ node := fun z => hng ⟨by rw [← z]; exact (goB_spec hu).1, by rw [← z, ru.2.2]⟩
    rw [dX_no (fun z => hne z.1), dX_no (fun z => hne z.1)]
  · rw [if_neg (by decide)]
    by_cases hz : S 1 node i j p q = 0
    · rw [if_pos hz]
      refine ⟨_, rfl, off1.tr Off.p1, plain ?_⟩
      intro l i' j' a b u u0 u1 hu
      by_cases he : ft G u = node ∧ i' = i ∧ j' = j ∧ a = p ∧ b = q
      · obtain ⟨e1, rfl, rfl, rfl, rfl⟩ := he
        right
        rw [e1]; exact hz
      · left
        rw [dX_no (fun z => he ⟨z.1, z.2.1, z.2.2.1, z.2.2.2.1, z.2.2.2.2.1⟩), dX_no (fun z => he ⟨z.1, z.2.1, z.2.2.1, z.2.2.2.1, z.2.2.2.2.1⟩)]
    · rw [if_neg hz]
      have hp : 0 ≤ p ∧ 0 ≤ q := by
        rcases hi.2.2.2.2.2.2 with ⟨-, a1, a2, a3⟩ | ⟨z, -⟩
        · omega
        · omega
      have g := Tab_guest E1 Q T0 (D' := dX D 1 node i j p q) (t := tr G node) (i := i) (j := j) (p := p) (q := q) trn.1 trn.2.1 (by rw [← hrt]; exact hs) (by rw [← hrt]; exact hi) hj ho (by rw [← hrt]; exact d0') (by rw [← hrt]; exact dX_yes (by omega)) (by
        rw [← hrt]
        intro half' node' i' j' p' q' hne
        by_cases hy : node' = node ∧ i' = i ∧ j' = j ∧ p' = p ∧ q' = q ∧ half' ≤ 0
        · obtain ⟨rfl, rfl, rfl, rfl, rfl, hy⟩ := hy
          rw [dX_yes (m := 0) hy, dX_yes (m := 1) (by omega)]
        · rw [dX_no (m := 0) hy, dX_no]
          rintro ⟨z1, z2, z3, z4, z5, z6⟩
          by_cases hh : half' = 1
          · exact hne ⟨z1, z2, z3, z4, z5, hh⟩
          · exact hy ⟨z1, z2, z3, z4, z5, by omega⟩)
      rw [← hrt] at g
      obtain ⟨h3, e3, o3, t3⟩ := g
      rw [cc_yes j hp.1, cc_yes j hp.2, e3, ob_some]
      exact ⟨h3, rfl, off1.tr o3, t3⟩
end
