/-! the class: waysBelow -/
section
variable {h : Hp} {o P sz : Int} {G : Gm} {ou : Int → Bool} {A : Ag} {V : Int → Prop} {S : SV} {D : SD}
theorem acc_lp (L : AgL A V) {body : Int × Int → Option ((Int × Int) ⊕ Int)} {f : Int → Int} {lo hi acc0 : Int} (hlo : lo ≤ hi + 1) (hN : hi + 1 - lo < 1000) (v0 : V acc0) (vf : ∀ x, lo ≤ x → x ≤ hi → V (f x)) (step : ∀ acc x, lo ≤ x → x ≤ hi → V acc → body (acc, x) = some (.inl (aE A acc (f x), x + 1))) (exit : ∀ acc, V acc → body (acc, hi + 1) = some (.inr acc)) : loopN body LN (acc0, lo) = some (aE A acc0 (aI A f lo hi)) := by
  obtain ⟨r, e, hp⟩ := loop_ok (body := body) (fun s => lo ≤ s.2 ∧ s.2 ≤ hi + 1 ∧ s.1 = aE A acc0 (aI A f lo (s.2 - 1))) (fun s => (hi + 1 - s.2).toNat) (fun r => r = aE A acc0 (aI A f lo hi)) (by
    rintro ⟨acc, x⟩ ⟨x0, x1, ha⟩
    simp only at x0 x1 ha
    have vs : V (aI A f lo (x - 1)) := aI_V L (fun y y0 y1 => vf y y0 (by omega))
    have va : V acc := by rw [ha]; exact ag_E L v0 vs
    by_cases hx : x ≤ hi
    · left
      refine ⟨_, step acc x x0 hx va, ⟨by simp only; omega, by simp only; omega, ?_⟩, by simp only; omega⟩
      simp only
      rw [show x + 1 - 1 = x by omega, aI_succ x0, ha, ag_ass L v0 vs (vf x x0 hx)]
    · right
      have hx' : x = hi + 1 := by omega
      subst hx'
      refine ⟨_, exit acc va, ?_⟩
      rw [ha, show hi + 1 - 1 = hi by omega]) LN (acc0, lo) ⟨Int.le_refl _, hlo, by simp only; rw [aI_nil (by omega), ag_E0 L v0]⟩ (by unfold LN; simp only; omega)
  rw [e, hp]
/-- what the chart holds of an item on the way -/
def tY (G : Gm) (ou : Int → Bool) (S : SV) (D : SD) (half node i j p q : Int) : Int := if ou (tr G node) = false ∧ D half node i j p q = true then S half node i j p q else 0
theorem tY_or {half node i j p q : Int} : tY G ou S D half node i j p q = S half node i j p q ∨ tY G ou S D half node i j p q = 0 := by
  unfold tY; split
  · exact Or.inl rfl
  · exact Or.inr rfl
theorem tY_is {half node i j p q : Int} (h1 : ou (tr G node) = false) (h2 : D half node i j p q = true) : tY G ou S D half node i j p q = S half node i j p q := by
  unfold tY; rw [if_pos ⟨h1, h2⟩]
theorem tY_V (L : AgL A V) (Q : AEq G ou A V sz S) {half node i j p q : Int} (hi : itm G half node i j p q) (hj : j ≤ sz) : V (tY G ou S D half node i j p q) := by
  unfold tY; split
  · exact (Q _ _ _ _ _ _ hi hj).1
  · exact ag_0 L
theorem cc_in {half node i j p q : Int} (hi : itm G half node i j p q) : 0 ≤ i ∧ i ≤ cc p j ∧ cc p j ≤ cc q j ∧ cc q j ≤ j := by
  obtain ⟨hh, n0, n1, i0, ij, j8, d⟩ := hi
  unfold cc
  rcases d with ⟨s1, d1, d2, d3⟩ | ⟨s0, rfl, rfl⟩
  · rw [if_neg (by omega), if_neg (by omega)]; omega
  · simp only [if_pos]; omega
theorem val_item (E : Ev h o P G sz ou A V) (T : Tab h o P G sz ou A S D) {half node i j p q : Int} (hi : itm G half node i j p q) (hj : j ≤ sz) : Ch_value o node half i j (cc p j) (cc q j) h = some (tY G ou S D half node i j p q) := by
  have c := cc_in hi
  rw [Ch_value_ok E hi.2.1 hi.2.2.1 hi.1 c.1 c.2.1 c.2.2.1 c.2.2.2 hj, T.1 _ _ _ _ _ _ hi hj]
  rfl
theorem gp_1 (p : Int) : gp 1 p = p := rfl
theorem gp_0 (p : Int) : gp 0 p = -1 := rfl
theorem cc_no (j : Int) : cc (-1) j = j := rfl
theorem cc_yes {p : Int} (j : Int) (h : 0 ≤ p) : cc p j = p := by unfold cc; rw [if_neg (by omega)]
theorem agr (E : Ev h o P G sz ou A V) : AgR h o A V := E.2.2.2.2.1 h Off.rf
/-- one split of the loop -/
theorem below_step (E : Ev h o P G sz ou A V) {x y s1 s2 acc n1 n2 i j p' q' g hi k : Int} (hk : k ≤ hi) (k8 : k < 1000) (k0 : -1000 < k) (va : V acc) (v1 : V s1) (v2 : V s2) (hx : x = s1 ∨ x = 0) (hy : y = s2 ∨ y = 0) (hb : s1 ≠ 0 → s2 ≠ 0 → x = s1 ∧ y = s2)
    (e1 : (if g = 0 then Ch_value o n1 1 i k k k h else Ch_value o n1 1 i k p' q' h) = some x) (e2 : (if g = 0 then Ch_value o n2 1 k j p' q' h else Ch_value o n2 1 k j j j h) = some y) :
    Ch_waysBelow_L83 o i j p' q' n1 n2 g hi h acc k = some (.inl (aE A acc (aB A s1 s2), k + 1)) := by
  have c0 := (ChO_k E.2.2.1.1).1
  have L := E.2.2.2.1
  have R := agr E
  have ew : w32 (k + 1) = k + 1 := by unfold w32; omega
  unfold Ch_waysBelow_L83
  rw [if_neg (by omega), if_pos c0]
  have m1 : (if g = 0 then ob (Ch_value o n1 1 i k k k h) (fun r123 => Ch_waysBelow_j126 o i j p' q' n1 n2 g acc hi k r123 h) else ob (Ch_value o n1 1 i k p' q' h) (fun r106 => Ch_waysBelow_j126 o i j p' q' n1 n2 g acc hi k r106 h)) = Ch_waysBelow_j126 o i j p' q' n1 n2 g acc hi k x h := by
    split at e1
    · rename_i hg; rw [if_pos hg, e1, ob_some]
    · rename_i hg; rw [if_neg hg, e1, ob_some]
  rw [if_pos c0, m1]
  unfold Ch_waysBelow_j126
  by_cases hx0 : x = 0
  · rw [if_pos hx0]
    unfold Ch_waysBelow_j205
    have : aB A s1 s2 = 0 := by
      by_cases z1 : s1 = 0
      · rw [z1, ag_0B L v2]
      · by_cases z2 : s2 = 0
        · rw [z2, ag_B0 L v1]
        · have := (hb z1 z2).1; omega
    rw [this, ag_E0 L va, ew]
  · rw [if_neg hx0, if_pos c0, if_pos c0]
    have m2 : (if g = 0 then ob (Ch_value o n2 1 k j p' q' h) (fun r166 => Ch_waysBelow_j169 o i j p' q' n1 n2 g acc hi k x r166 h) else ob (Ch_value o n2 1 k j j j h) (fun r149 => Ch_waysBelow_j169 o i j p' q' n1 n2 g acc hi k x r149 h)) = Ch_waysBelow_j169 o i j p' q' n1 n2 g acc hi k x y h := by
      split at e2
      · rename_i hg; rw [if_pos hg, e2, ob_some]
      · rename_i hg; rw [if_neg hg, e2, ob_some]
    rw [m2]
    unfold Ch_waysBelow_j169 Ch_waysBelow_j203 Ch_waysBelow_j205
    have hx1 : x = s1 := by omega
    subst hx1
    by_cases hy0 : y = 0
    · rw [if_pos hy0]
      have : aB A x s2 = 0 := by
        by_cases z2 : s2 = 0
        · rw [z2, ag_B0 L v1]
        · have := (hb hx0 z2).2; omega
      rw [this, ag_E0 L va, ew]
    · have hy1 : y = s2 := by omega
      subst hy1
      rw [if_neg hy0, if_pos c0, (R.1 x y v1 v2).2, ob_some, (R.1 acc _ va (ag_B L v1 v2)).1, ob_some, ew]
end
