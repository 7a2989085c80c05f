/-! the class: fillSign -/
def dJ (D : SD) (node c x y : Int) : SD := fun half' node' i' j' p' q' => D half' node' i' j' p' q' || decide (node' = node ∧ cov i' j' p' q' = c ∧ (i' < x ∨ (i' = x ∧ j' < y)))
section
variable {h : Hp} {o P sz : Int} {G : Gm} {ou : Int → Bool} {A : Ag} {V : Int → Prop} {S : SV} {D : SD}
theorem dJ_no {node c x y half' node' i' j' p' q' : Int} (e : ¬ (node' = node ∧ cov i' j' p' q' = c ∧ (i' < x ∨ (i' = x ∧ j' < y)))) : dJ D node c x y half' node' i' j' p' q' = D half' node' i' j' p' q' := by
  unfold dJ; rw [decide_eq_false e, Bool.or_false]
theorem dJ_yes {node c x y half' node' i' j' p' q' : Int} (e : node' = node ∧ cov i' j' p' q' = c ∧ (i' < x ∨ (i' = x ∧ j' < y))) : dJ D node c x y half' node' i' j' p' q' = true := by
  unfold dJ; rw [decide_eq_true e, Bool.or_true]
theorem gSum_dJ {node c x y l i j a b : Int} (hr : ∀ t, 0 ≤ t → t < nT G → ft G t ≠ node) : gSum G ou A S (dJ D node c x y) l i j a b = gSum G ou A S D l i j a b := by
  unfold gSum
  apply aI_congr
  intro t t0 t1
  rw [dJ_no (fun e => hr t t0 (by omega) e.1)]
/-- one cell of a sign -/
theorem sign_put (E : Ev h o P G sz ou A V) {x y : Int} {p q v : Int} {node : Int} (T : Tab h o P G sz ou A S (dJ D node (nd G node) x y)) (it : itm G 1 node x y p q) (hy : y ≤ sz) (hk : kd G node ≠ 0) (ho : ou (tr G node) = false) (hc : cov x y p q = nd G node)
    (hS : ∀ half', half' = 0 ∨ half' = 1 → S half' node x y p q = v) (hu : ∀ half' p' q', itm G half' node x y p' q' → cov x y p' q' = nd G node → p' = p ∧ q' = q)
    (hr : ∀ t, 0 ≤ t → t < nT G → ft G t ≠ node) :
    Tab (hput h (o + 15) (rwN G 1 node + cI x y (cc p y) (cc q y)) v) o P G sz ou A S (dJ D node (nd G node) x (y + 1)) := by
  refine Tab_put E T it hy ho (hS 1 (Or.inr rfl)).symm (fun _ half' hh => by rw [hS half' hh, hS 1 (Or.inr rfl)]) (fun half' hh _ => dJ_yes ⟨rfl, hc, Or.inr ⟨rfl, by omega⟩⟩) ?_ ?_
  · intro half' node' i' j' p' q' hi' hne
    by_cases h1 : node' = node ∧ cov i' j' p' q' = nd G node ∧ (i' < x ∨ (i' = x ∧ j' < y))
    · rw [dJ_yes h1, dJ_yes ⟨h1.1, h1.2.1, by omega⟩]
    · rw [dJ_no h1, dJ_no]
      rintro ⟨rfl, e2, e3⟩
      have hxx : i' = x ∧ j' = y := by
        apply Classical.byContradiction
        intro hn
        exact h1 ⟨rfl, e2, by omega⟩
      obtain ⟨rfl, rfl⟩ := hxx
      obtain ⟨rfl, rfl⟩ := hu _ _ _ hi' e2
      exact hne ⟨rfl, rfl, rfl, rfl, rfl, fun z => absurd z hk⟩
  · intro t l i' j' a b t0 t1 hg _ _ _ _ _
    rw [gSum_dJ hr, gSum_dJ hr]
theorem sign_nx (E : Ev h o P G sz ou A V) {node x y z : Int} (T : Tab h o P G sz ou A S (dJ D node (nd G node) x y)) (hz : ∀ half j' p' q', itm G half node x j' p' q' → j' ≤ sz → cov x j' p' q' = nd G node → j' < y) (hz' : z ≤ x + 1) : Tab h o P G sz ou A S (dJ D node (nd G node) (x + 1) z) := by
  refine Tab_congr E T ?_
  intro half node' i j p q hi hj _
  left
  by_cases h1 : node' = node ∧ cov i j p q = nd G node ∧ (i < x ∨ (i = x ∧ j < y))
  · rw [dJ_yes h1, dJ_yes ⟨h1.1, h1.2.1, by omega⟩]
  · rw [dJ_no h1, dJ_no]
    rintro ⟨rfl, e2, e3⟩
    apply h1
    refine ⟨rfl, e2, ?_⟩
    by_cases hx : i = x
    · subst hx
      exact Or.inr ⟨rfl, hz _ _ _ _ hi hj e2⟩
    · have := hi.2.2.2.2.1
      omega
end
