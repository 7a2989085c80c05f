/-! the class: fillBranch's loops -/
def dB (D : SD) (node c x y z : Int) : SD := fun half' node' i' j' p' q' => D half' node' i' j' p' q' || decide (node' = node ∧ cov i' j' p' q' = c ∧ (i' < x ∨ (i' = x ∧ (j' < y ∨ (j' = y ∧ cc p' j' < z)))))
section
variable {h : Hp} {o P sz : Int} {G : Gm} {ou : Int → Bool} {A : Ag} {V : Int → Prop} {S : SV} {D : SD}
theorem dB_no {node c x y z half' node' i' j' p' q' : Int} (e : ¬ (node' = node ∧ cov i' j' p' q' = c ∧ (i' < x ∨ (i' = x ∧ (j' < y ∨ (j' = y ∧ cc p' j' < z)))))) : dB D node c x y z half' node' i' j' p' q' = D half' node' i' j' p' q' := by
  unfold dB; rw [decide_eq_false e, Bool.or_false]
theorem dB_yes {node c x y z half' node' i' j' p' q' : Int} (e : node' = node ∧ cov i' j' p' q' = c ∧ (i' < x ∨ (i' = x ∧ (j' < y ∨ (j' = y ∧ cc p' j' < z))))) : dB D node c x y z half' node' i' j' p' q' = true := by
  unfold dB; rw [decide_eq_true e, Bool.or_true]
theorem dB_up {node c x y z half' node' i' j' p' q' : Int} (e : D half' node' i' j' p' q' = true) : dB D node c x y z half' node' i' j' p' q' = true := by
  unfold dB; rw [e]; rfl
/-- two places of the loops between which no item of the node lies -/
theorem dB_nx (E : Ev h o P G sz ou A V) {node c x y z x' y' z' : Int} (T : Tab h o P G sz ou A S (dB D node c x y z))
    (hz : ∀ half i j p q, itm G half node i j p q → j ≤ sz → cov i j p q = c → ((i < x ∨ (i = x ∧ (j < y ∨ (j = y ∧ cc p j < z)))) ↔ (i < x' ∨ (i = x' ∧ (j < y' ∨ (j = y' ∧ cc p j < z')))))) : Tab h o P G sz ou A S (dB D node c x' y' z') := by
  refine Tab_congr E T ?_
  intro half node' i j p q hi hj _
  left
  unfold dB
  congr 1
  apply decide_eq_decide.mpr
  constructor
  · rintro ⟨rfl, e2, e3⟩
    exact ⟨rfl, e2, (hz _ _ _ _ _ hi hj e2).1 e3⟩
  · rintro ⟨rfl, e2, e3⟩
    exact ⟨rfl, e2, (hz _ _ _ _ _ hi hj e2).2 e3⟩
/-- after one cell -/
theorem dX_dB (E : Ev h o P G sz ou A V) {node c x y p q : Int} (hi : itm G 1 node x y p q) (hc : cov x y p q = c) (T : Tab h o P G sz ou A S (dX (dB D node c x y (cc p y)) 1 node x y p q)) : Tab h o P G sz ou A S (dB D node c x y (cc p y + 1)) := by
  refine Tab_congr E T ?_
  intro half node' i j p' q' hi' hj _
  left
  by_cases h1 : node' = node ∧ cov i j p' q' = c ∧ (i < x ∨ (i = x ∧ (j < y ∨ (j = y ∧ cc p' j < cc p y))))
  · rw [dX_up (dB_yes h1), dB_yes ⟨h1.1, h1.2.1, by omega⟩]
  · by_cases h2 : node' = node ∧ i = x ∧ j = y ∧ p' = p ∧ q' = q
    · obtain ⟨rfl, rfl, rfl, rfl, rfl⟩ := h2
      rw [dX_yes (by have := hi'.1; omega), dB_yes ⟨rfl, hc, by omega⟩]
    · rw [dX_no (fun z => h2 ⟨z.1, z.2.1, z.2.2.1, z.2.2.2.1, z.2.2.2.2.1⟩), dB_no h1, dB_no]
      rintro ⟨rfl, e2, e3⟩
      have e4 : i = x ∧ j = y ∧ cc p' j = cc p y := by
        apply Classical.byContradiction
        intro hn
        exact h1 ⟨rfl, e2, by omega⟩
      obtain ⟨rfl, rfl, e5⟩ := e4
      apply h2
      rcases hi.2.2.2.2.2.2 with ⟨s1, a1, a2, a3⟩ | ⟨s0, rfl, rfl⟩ <;> rcases hi'.2.2.2.2.2.2 with ⟨s1', b1, b2, b3⟩ | ⟨s0', rfl, rfl⟩
      · have i0 := hi.2.2.2.1
        rw [cc_yes j (by omega), cc_yes j (by omega)] at e5
        rw [cov_gap (by omega)] at e2 hc
        exact ⟨rfl, rfl, rfl, e5, by omega⟩
      · omega
      · omega
      · exact ⟨rfl, rfl, rfl, rfl, rfl⟩
end
