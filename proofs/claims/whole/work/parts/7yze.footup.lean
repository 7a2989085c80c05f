/-! grammar: a foot is told to those above -/
section
variable {f : Hp} {Q N x : Int} {U : Int → Int}
theorem foot_up (O : GrO Q) (G : GShp f Q) (N1 : N ≤ 40) (D : Dec U N) (hU : ∀ y, 0 ≤ y → y < N → f (Q + 8) y = U y) (x0 : 0 ≤ x) (x1 : x < N) :
    ∃ f', loopN (fun q => Gr_addFoot_L14 Q q.1 q.2.1 q.2.2) LN (x, 0, f) = some f' ∧ (∀ c s, c ≠ Q + 10 → f' c s = f c s) ∧ ∀ y, f' (Q + 10) y = if anB U 12 x y = true then 1 else f (Q + 10) y := by
  obtain ⟨g0, g1, g2, g3, g4, g5, g6, g7, g8, g9, g10, g11, g12, g13⟩ := GrO_k O
  obtain ⟨r, e, p1, p2⟩ := loop_ok (body := fun q => Gr_addFoot_L14 Q q.1 q.2.1 q.2.2) (fun q => (0 ≤ q.2.1 ∧ q.2.1 ≤ 12) ∧ (q.1 = -1 ∨ 0 ≤ q.1) ∧ q.1 < N ∧ (∀ c s, c ≠ Q + 10 → q.2.2 c s = f c s) ∧ ∀ y, (if anB U (12 - q.2.1).toNat q.1 y = true then 1 else q.2.2 (Q + 10) y) = if anB U 12 x y = true then 1 else f (Q + 10) y) (fun q => (12 - q.2.1).toNat) (fun r => (∀ c s, c ≠ Q + 10 → r c s = f c s) ∧ ∀ y, r (Q + 10) y = if anB U 12 x y = true then 1 else f (Q + 10) y) (by
    rintro ⟨a, i, m⟩ ⟨⟨i0, i1⟩, a0, a1, fr, iv⟩
    simp only at i0 i1 a0 a1 fr iv
    simp only
    unfold Gr_addFoot_L14
    by_cases hi : 12 ≤ i
    · right
      rw [if_pos hi]
      refine ⟨_, rfl, fr, fun y => ?_⟩
      have := iv y
      rw [show (12 - i).toNat = 0 by omega] at this
      rw [show anB U 0 a y = false from rfl, if_neg (by decide)] at this
      exact this
    · rw [if_neg hi]
      obtain ⟨n, hn'⟩ : ∃ n : Nat, (12 - i).toNat = n + 1 := ⟨(12 - i).toNat - 1, by omega⟩
      by_cases ha : a = -1
      · right
        rw [if_pos ha]
        refine ⟨_, rfl, fr, fun y => ?_⟩
        have := iv y
        rw [hn'] at this
        unfold anB at this
        rw [if_pos ha, if_neg (by decide)] at this
        exact this
      · left
        have aa : 0 ≤ a := by omega
        have s15 : m Q 15 = Q + 10 := by rw [fr Q 15 (by omega)]; exact G.2.2.2.2.2.2.2.2.2.1
        have s13 : (hput m (Q + 10) a 1) Q 13 = Q + 8 := by rw [hput_ne1 (by omega), fr Q 13 (by omega)]; exact G.2.2.2.2.2.2.2.1
        have u : (hput m (Q + 10) a 1) (Q + 8) a = U a := by rw [hput_ne1 (by omega), fr (Q + 8) a (by omega)]; exact hU a aa a1
        have dc := D a aa a1
        rw [if_neg ha, if_pos g0, s15, if_pos (show kK (Q + 10) = 23 ∧ (0 : Int) ≤ a ∧ a < kL (Q + 10) from ⟨g10.1, aa, by rw [g10.2]; omega⟩)]
        refine ⟨(U a, i + 1, hput m (Q + 10) a 1), ?_, ⟨⟨by simp only; omega, by simp only; omega⟩, by simp only; omega, by simp only; omega, fun c s hc => ?_, fun y => ?_⟩, by simp only; omega⟩
        · show (if kK ((hput m (Q + 10) a 1) Q 13) = 21 ∧ (0 : Int) ≤ a ∧ a < kL ((hput m (Q + 10) a 1) Q 13) then some (Sum.inl ((hput m (Q + 10) a 1) ((hput m (Q + 10) a 1) Q 13) a, w32 (i + 1), hput m (Q + 10) a 1)) else none) = _
          rw [s13, if_pos (show kK (Q + 8) = 21 ∧ (0 : Int) ≤ a ∧ a < kL (Q + 8) from ⟨g8.1, aa, by rw [g8.2]; omega⟩), u, show w32 (i + 1) = i + 1 by unfold w32; omega]
        · simp only
          rw [hput_ne1 hc]
          exact fr c s hc
        · simp only
          have iy := iv y
          rw [hn'] at iy
          unfold anB at iy
          rw [if_neg ha] at iy
          rw [show (12 - (i + 1)).toNat = n by omega]
          by_cases hy : a = y
          · subst hy
            rw [if_pos rfl, if_pos rfl] at iy
            have t1 : (if anB U n (U a) a = true then (1 : Int) else 1) = 1 := by split <;> rfl
            rw [hput_eq, t1]
            exact iy
          · rw [if_neg hy] at iy
            rw [hput_ne2 (fun z => hy z.symm)]
            exact iy) LN (x, 0, f) ⟨⟨Int.le_refl 0, show (0 : Int) ≤ 12 by decide⟩, Or.inr x0, x1, fun _ _ _ => rfl, fun y => rfl⟩ (by unfold LN; simp only; omega)
  exact ⟨r, e, p1, p2⟩
end
