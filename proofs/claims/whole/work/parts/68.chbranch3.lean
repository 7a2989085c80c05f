section
variable {h : Hp} {o P sz : Int} {G : Gm} {ou : Int → Bool} {A : Ag} {V : Int → Prop} {S : SV} {D : SD}
theorem branch_p (E : Ev h o P G sz ou A V) (Q : AEq G ou A V sz S) {node c x y gu w : Int} (T : Tab h o P G sz ou A S (dB D node c x y 0)) (n0 : 0 ≤ node) (n1 : node < nN G) (hk : kd G node = 0) (ho : ou (tr G node) = false) (c0 : 0 ≤ c) (x0 : 0 ≤ x) (hxy : x + c ≤ y) (hy : y ≤ sz) (hf : sp G node = 0 → y = x + c)
    (dn : ∀ half i j p q, itm G half node i j p q → cov i j p q = c → D half node i j p q = false)
    (hD : ∀ half' node' i' j' p' q' half i j p q, itm G half' node' i' j' p' q' → itm G half node i j p q → cov i j p q = c → bef G node' i' j' p' q' node i j p q → D half' node' i' j' p' q' = true)
    (hgu : (gu = 0 ∧ ¬ (sp G node = 1 ∧ node = ft G (tr G node))) ∨ (gu = 1 ∧ sp G node = 1 ∧ node = ft G (tr G node))) :
    ∃ h', loopN (fun q => Ch_fillBranch_L108 o node c (sp G node) gu x w y (if sp G node = 0 then 0 else y - x - c) q.1 q.2) LN (if sp G node = 0 then y else x, h) = some h' ∧ Off o h h' ∧ Tab h' o P G sz ou A S (dB D node c x (y + 1) 0) := by
  have W := E.1
  have z8 := E.2.2.1.2.2.2.2.2.2
  have sn := (wf_sp W n0 n1).1
  obtain ⟨s0, gap, es0, egap, b1, b2, b3⟩ : ∃ s0 gap, (if sp G node = 0 then y else x) = s0 ∧ (if sp G node = 0 then 0 else y - x - c) = gap ∧ x ≤ s0 ∧ 0 ≤ gap ∧ s0 + gap ≤ y := by
    rcases sn with z | z
    · refine ⟨_, _, rfl, rfl, ?_⟩
      rw [if_pos z, if_pos z]
      omega
    · refine ⟨_, _, rfl, rfl, ?_⟩
      rw [if_neg (by omega), if_neg (by omega)]
      omega
  rw [es0, egap]
  have item : ∀ z, s0 ≤ z → z + gap ≤ y → ∃ p q, itm G 1 node x y p q ∧ cc p y = z ∧ cc q y = z + gap ∧ cov x y p q = c := by
    intro z z0 z1
    rcases sn with s | s
    · rw [if_pos s] at es0 egap
      exact ⟨-1, -1, ⟨Or.inr rfl, n0, n1, x0, by omega, by omega, Or.inr ⟨s, rfl, rfl⟩⟩, by rw [cc_no]; omega, by rw [cc_no]; omega, by rw [cov_no]; have := hf s; omega⟩
    · rw [if_neg (by omega)] at es0 egap
      exact ⟨z, z + gap, ⟨Or.inr rfl, n0, n1, x0, by omega, by omega, Or.inl ⟨s, by omega, by omega, z1⟩⟩, cc_yes y (by omega), cc_yes y (by omega), by rw [cov_gap (by omega)]; omega⟩
  have rng : ∀ half p q, itm G half node x y p q → cov x y p q = c → s0 ≤ cc p y ∧ cc p y ≤ y - gap := by
    intro half p q hi hc
    rcases hi.2.2.2.2.2.2 with ⟨s, a1, a2, a3⟩ | ⟨s, rfl, rfl⟩
    · rw [if_neg (by omega)] at es0 egap
      rw [cov_gap (by omega)] at hc
      rw [cc_yes y (by omega)]
      omega
    · rw [if_pos s] at es0 egap
      rw [cc_no]
      omega
  clear es0 egap
  obtain ⟨r, er, hoff, htab⟩ := loop_ok (body := fun q => Ch_fillBranch_L108 o node c (sp G node) gu x w y gap q.1 q.2) (fun s => s0 ≤ s.1 ∧ s.1 ≤ y - gap + 1 ∧ Off o h s.2 ∧ Tab s.2 o P G sz ou A S (dB D node c x y s.1)) (fun s => (y - gap + 1 - s.1).toNat) (fun r => Off o h r ∧ Tab r o P G sz ou A S (dB D node c x y (y - gap + 1))) (by
    rintro ⟨z, h1⟩ ⟨z0, z1, hof, ht⟩
    simp only at z0 z1 hof ht ⊢
    have E1 := E.off hof
    by_cases hz : z + gap ≤ y
    · left
      obtain ⟨p, q, it, ep, eq, hc⟩ := item z z0 hz
      have hz0 : z = cc p y := ep.symm
      subst hz0
      obtain ⟨h2, e2, o2, t2⟩ := branch_cell E1 Q ht (c := c) (fo := sp G node) (gu := gu) (w := w) (gap := gap) it hy hk ho (by rw [dB_no (by omega)]; exact dn _ _ _ _ _ it hc) (fun half' node' i' j' p' q' hi' hb => dB_up (hD _ _ _ _ _ _ _ _ _ _ _ hi' it hc hb)) eq.symm hgu
      refine ⟨_, e2, ⟨by simp only; omega, by simp only; omega, hof.tr o2, ?_⟩, by simp only; omega⟩
      exact dX_dB (E1.off o2) it hc t2
    · right
      have hz' : z = y - gap + 1 := by omega
      subst hz'
      refine ⟨h1, ?_, hof, ht⟩
      unfold Ch_fillBranch_L108
      rw [if_pos (by unfold w32; omega)]) LN (s0, h) ⟨Int.le_refl _, by simp only; omega, Off.rf, dB_nx E T (by
        intro half i j p q hi hj hc
        simp only
        by_cases hx : i = x ∧ j = y
        · obtain ⟨rfl, rfl⟩ := hx
          have := rng _ _ _ hi hc
          omega
        · omega)⟩ (by unfold LN; simp only; omega)
  refine ⟨r, er, hoff, dB_nx (E.off hoff) htab ?_⟩
  intro half i j p q hi hj hc
  have ci := cc_in hi
  by_cases hx : i = x ∧ j = y
  · obtain ⟨rfl, rfl⟩ := hx
    have := rng _ _ _ hi hc
    omega
  · omega
end
