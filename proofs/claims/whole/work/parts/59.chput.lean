/-! the class: a cell is written -/
section
variable {h : Hp} {o P sz : Int} {G : Gm} {ou : Int → Bool} {A : Ag} {V : Int → Prop} {S : SV} {D : SD}
theorem cell_inj {half node half' node' c c' : Int} (hh : half = 0 ∨ half = 1) (hh' : half' = 0 ∨ half' = 1) (c0 : 0 ≤ c) (c1 : c < 495) (c0' : 0 ≤ c') (c1' : c' < 495) (e : rwN G half node + c = rwN G half' node' + c') : node = node' ∧ (kd G node = 0 → half = half') ∧ c = c' := by
  unfold rwN at e
  have key : ∀ x x' : Int, (x = 0 ∨ x = 1) → (x' = 0 ∨ x' = 1) → (2 * node + x) * 495 + c = (2 * node' + x') * 495 + c' → node = node' ∧ x = x' ∧ c = c' := by
    intro x x' hx hx' he
    omega
  have k1 : (if kd G node = 0 then half else 1) = 0 ∨ (if kd G node = 0 then half else 1) = 1 := by split; exact hh; exact Or.inr rfl
  have k2 : (if kd G node' = 0 then half' else 1) = 0 ∨ (if kd G node' = 0 then half' else 1) = 1 := by split; exact hh'; exact Or.inr rfl
  obtain ⟨e1, e2, e3⟩ := key _ _ k1 k2 e
  subst e1
  refine ⟨rfl, fun hk => ?_, e3⟩
  rwa [if_pos hk, if_pos hk] at e2
theorem cc_inj {half half' node i j p q p' q' : Int} (hi : itm G half node i j p q) (hi' : itm G half' node i j p' q') (e1 : cc p j = cc p' j) (e2 : cc q j = cc q' j) : p = p' ∧ q = q' := by
  rcases hi.2.2.2.2.2.2 with ⟨s1, d1, d2, d3⟩ | ⟨s0, d1, d2⟩ <;> rcases hi'.2.2.2.2.2.2 with ⟨s1', d1', d2', d3'⟩ | ⟨s0', d1', d2'⟩
  · have := hi.2.2.2.1
    rw [cc_yes j (by omega), cc_yes j (by omega)] at e1 e2
    exact ⟨e1, e2⟩
  · omega
  · omega
  · omega
/-- the cell that is written is X's, and D' is D and X -/
theorem Tab_put12 (E : Ev h o P G sz ou A V) (T : Tab h o P G sz ou A S D) {D' : SD} {half node i j p q v : Int} (hi : itm G half node i j p q) (hj : j ≤ sz) (ho : ou (tr G node) = false) (hv : v = S half node i j p q)
    (hs : kd G node ≠ 0 → ∀ half', half' = 0 ∨ half' = 1 → S half' node i j p q = S half node i j p q)
    (d1 : ∀ half', (half' = 0 ∨ half' = 1) → (kd G node = 0 → half' = half) → D' half' node i j p q = true)
    (d2 : ∀ half' node' i' j' p' q', itm G half' node' i' j' p' q' → ¬ (node' = node ∧ i' = i ∧ j' = j ∧ p' = p ∧ q' = q ∧ (kd G node = 0 → half' = half)) → D' half' node' i' j' p' q' = D half' node' i' j' p' q') :
    (∀ half' node' i' j' p' q', itm G half' node' i' j' p' q' → j' ≤ sz → tv (hput h (o + 15) (rwN G half node + cI i j (cc p j) (cc q j)) v) o G half' node' i' j' (cc p' j') (cc q' j') = if ou (tr G node') = false ∧ D' half' node' i' j' p' q' = true then S half' node' i' j' p' q' else 0) ∧
    (∀ half' node' i' j' p' q', (half' = 0 ∨ half' = 1) → 0 ≤ node' → node' < nN G → sp G node' = 0 → 0 ≤ i' → i' ≤ p' → p' ≤ q' → q' ≤ j' → j' ≤ sz → (p' ≠ j' ∨ q' ≠ j') → tv (hput h (o + 15) (rwN G half node + cI i j (cc p j) (cc q j)) v) o G half' node' i' j' p' q' = 0) := by
  have z8 := E.2.2.1.2.2.2.2.2.2
  have W := E.1
  have ci := cc_in hi
  have kc := cI_495 ci.1 ci.2.1 ci.2.2.1 ci.2.2.2 (show j ≤ 8 by omega)
  refine ⟨?_, ?_⟩
  · intro half' node' i' j' p' q' hi' hj'
    have ci' := cc_in hi'
    have kc' := cI_495 ci'.1 ci'.2.1 ci'.2.2.1 ci'.2.2.2 (show j' ≤ 8 by omega)
    by_cases heq : node' = node ∧ i' = i ∧ j' = j ∧ p' = p ∧ q' = q ∧ (kd G node = 0 → half' = half)
    · obtain ⟨rfl, rfl, rfl, rfl, rfl, hh⟩ := heq
      have e : rwN G half' node' = rwN G half node' := by
        unfold rwN
        by_cases hk : kd G node' = 0
        · rw [hh hk]
        · rw [if_neg hk, if_neg hk]
      unfold tv
      rw [e, hput_eq, if_pos ⟨ho, d1 half' hi'.1 hh⟩, hv]
      by_cases hk : kd G node' = 0
      · rw [hh hk]
      · exact (hs hk half' hi'.1).symm
    · rw [d2 _ _ _ _ _ _ hi' heq, ← T.1 _ _ _ _ _ _ hi' hj']
      unfold tv
      apply hput_ne2
      intro e
      obtain ⟨e1, e2, e3⟩ := cell_inj hi'.1 hi.1 kc'.1 kc'.2 kc.1 kc.2 e
      obtain ⟨f1, f2, f3, f4⟩ := cI_inj ci'.1 ci'.2.1 ci'.2.2.1 ci'.2.2.2 (by omega) ci.1 ci.2.1 ci.2.2.1 ci.2.2.2 (by omega) e3
      subst e1 f1 f2
      obtain ⟨g1, g2⟩ := cc_inj hi' hi f3 f4
      exact heq ⟨rfl, rfl, rfl, g1, g2, e2⟩
  · intro half' node' i' j' p' q' hh' n0' n1' s0' i0' ip' pq' qj' hj' hne
    rw [← T.2.1 half' node' i' j' p' q' hh' n0' n1' s0' i0' ip' pq' qj' hj' hne]
    unfold tv
    apply hput_ne2
    intro e
    have kc' := cI_495 i0' ip' pq' qj' (show j' ≤ 8 by omega)
    obtain ⟨e1, e2, e3⟩ := cell_inj hh' hi.1 kc'.1 kc'.2 kc.1 kc.2 e
    obtain ⟨f1, f2, f3, f4⟩ := cI_inj i0' ip' pq' qj' (by omega) ci.1 ci.2.1 ci.2.2.1 ci.2.2.2 (by omega) e3
    subst e1 f1 f2
    rcases hi.2.2.2.2.2.2 with ⟨s1, -⟩ | ⟨s0, rfl, rfl⟩
    · omega
    · rw [cc_no] at f3 f4; omega
theorem Tab_put (E : Ev h o P G sz ou A V) (T : Tab h o P G sz ou A S D) {D' : SD} {half node i j p q v : Int} (hi : itm G half node i j p q) (hj : j ≤ sz) (ho : ou (tr G node) = false) (hv : v = S half node i j p q)
    (hs : kd G node ≠ 0 → ∀ half', half' = 0 ∨ half' = 1 → S half' node i j p q = S half node i j p q)
    (d1 : ∀ half', (half' = 0 ∨ half' = 1) → (kd G node = 0 → half' = half) → D' half' node i j p q = true)
    (d2 : ∀ half' node' i' j' p' q', itm G half' node' i' j' p' q' → ¬ (node' = node ∧ i' = i ∧ j' = j ∧ p' = p ∧ q' = q ∧ (kd G node = 0 → half' = half)) → D' half' node' i' j' p' q' = D half' node' i' j' p' q')
    (dg : ∀ t l i' j' a b, 0 ≤ t → t < nT G → goB G ou t l 1 = true → 0 ≤ i' → i' ≤ a → a ≤ b → b ≤ j' → j' ≤ sz → gSum G ou A S D' l i' j' a b = gSum G ou A S D l i' j' a b) :
    Tab (hput h (o + 15) (rwN G half node + cI i j (cc p j) (cc q j)) v) o P G sz ou A S D' := by
  have p13 : ∀ x, hput h (o + 15) (rwN G half node + cI i j (cc p j) (cc q j)) v (P + 13) x = h (P + 13) x := fun x => hput_ne1 ((off_P E.2.2.1.1 E.2.1.1).1 13 (by omega) (by omega)).1
  obtain ⟨a1, a2⟩ := Tab_put12 E T hi hj ho hv hs d1 d2
  refine ⟨a1, a2, ?_⟩
  intro t l i' j' a b t0 t1 hg i0' ia ab bj hj'
  rw [p13, hput_ne1 (show o + 16 ≠ o + 15 by omega), T.2.2 t l i' j' a b t0 t1 hg i0' ia ab bj hj', dg t l i' j' a b t0 t1 hg i0' ia ab bj hj']
end
