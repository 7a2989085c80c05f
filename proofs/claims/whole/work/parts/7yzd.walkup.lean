/-! grammar: letters and feet are told to those above -/
def anB (U : Int → Int) : Nat → Int → Int → Bool
  | 0, _, _ => false
  | n + 1, x, y => if x = -1 then false else if x = y then true else anB U n (U x) y
def Dec (U : Int → Int) (N : Int) : Prop := ∀ x, 0 ≤ x → x < N → U x = -1 ∨ (0 ≤ U x ∧ U x < x)
theorem anB_le {U : Int → Int} {N : Int} (D : Dec U N) : ∀ (n : Nat) (x y : Int), x < N → (x = -1 ∨ 0 ≤ x) → anB U n x y = true → 0 ≤ y ∧ y ≤ x
  | 0, _, _, _, _, h => absurd h (by unfold anB; decide)
  | n + 1, x, y, x1, x0, h => by
    unfold anB at h
    by_cases a : x = -1
    · rw [if_pos a] at h; exact absurd h (by decide)
    · rw [if_neg a] at h
      by_cases b : x = y
      · omega
      · rw [if_neg b] at h
        rcases D x (by omega) x1 with z | z
        · have := anB_le D n (U x) y (by omega) (Or.inl z) h
          omega
        · have := anB_le D n (U x) y (by omega) (Or.inr z.1) h
          omega
section
variable {f : Hp} {Q N x : Int} {U : Int → Int}
theorem letter_up (O : GrO Q) (G : GShp f Q) (N1 : N ≤ 40) (D : Dec U N) (hU : ∀ y, 0 ≤ y → y < N → f (Q + 8) y = U y) (hn : ∀ y, 0 ≤ y → y < N → 0 ≤ f (Q + 9) y ∧ f (Q + 9) y ≤ 100) (x0 : 0 ≤ x) (x1 : x < N) :
    ∃ f', loopN (fun q => Gr_addLetter_L26 Q q.1 q.2.1 q.2.2) LN (x, 0, f) = some f' ∧ (∀ c s, c ≠ Q + 9 → f' c s = f c s) ∧ ∀ y, f' (Q + 9) y = f (Q + 9) y + (if anB U 12 x y = true then 1 else 0) := by
  obtain ⟨g0, g1, g2, g3, g4, g5, g6, g7, g8, g9, g10, g11, g12, g13⟩ := GrO_k O
  obtain ⟨r, e, p1, p2⟩ := loop_ok (body := fun q => Gr_addLetter_L26 Q q.1 q.2.1 q.2.2) (fun q => (0 ≤ q.2.1 ∧ q.2.1 ≤ 12) ∧ (q.1 = -1 ∨ 0 ≤ q.1) ∧ q.1 < N ∧ (∀ c s, c ≠ Q + 9 → q.2.2 c s = f c s) ∧ (∀ y, 0 ≤ y → y < N → 0 ≤ q.2.2 (Q + 9) y ∧ q.2.2 (Q + 9) y ≤ 100 + q.2.1) ∧ ∀ y, q.2.2 (Q + 9) y + (if anB U (12 - q.2.1).toNat q.1 y = true then 1 else 0) = f (Q + 9) y + (if anB U 12 x y = true then 1 else 0)) (fun q => (12 - q.2.1).toNat) (fun r => (∀ c s, c ≠ Q + 9 → r c s = f c s) ∧ ∀ y, r (Q + 9) y = f (Q + 9) y + (if anB U 12 x y = true then 1 else 0)) (by
    rintro ⟨a, i, m⟩ ⟨⟨i0, i1⟩, a0, a1, fr, bd, iv⟩
    simp only at i0 i1 a0 a1 fr bd iv
    simp only
    unfold Gr_addLetter_L26
    by_cases hi : 12 ≤ i
    · right
      rw [if_pos hi]
      refine ⟨_, rfl, fr, fun y => ?_⟩
      have := iv y
      rw [show (12 - i).toNat = 0 by omega] at this
      rw [show anB U 0 a y = false from rfl, if_neg (by decide)] at this
      omega
    · rw [if_neg hi]
      obtain ⟨n, hn'⟩ : ∃ n : Nat, (12 - i).toNat = n + 1 := ⟨(12 - i).toNat - 1, by omega⟩
      by_cases ha : a = -1
      · right
        rw [if_pos ha]
        refine ⟨_, rfl, fr, fun y => ?_⟩
        have := iv y
        rw [hn'] at this
        unfold anB at this
        rw [if_pos ha, if_neg (by decide)] at this
        rw [Int.add_zero] at this
        exact this
      · left
        have aa : 0 ≤ a := by omega
        have s14 : m Q 14 = Q + 9 := by rw [fr Q 14 (by omega)]; exact G.2.2.2.2.2.2.2.2.1
        have s13 : ∀ v, (hput m (Q + 9) a v) Q 13 = Q + 8 := fun v => by rw [hput_ne1 (by omega), fr Q 13 (by omega)]; exact G.2.2.2.2.2.2.2.1
        have u : ∀ v, (hput m (Q + 9) a v) (Q + 8) a = U a := fun v => by rw [hput_ne1 (by omega), fr (Q + 8) a (by omega)]; exact hU a aa a1
        have b := bd a aa a1
        have dc := D a aa a1
        have ew : w32 (m (Q + 9) a + 1) = m (Q + 9) a + 1 := by unfold w32; omega
        rw [if_neg ha, if_pos g0, s14, if_pos (show kK (Q + 9) = 21 ∧ (0 : Int) ≤ a ∧ a < kL (Q + 9) from ⟨g9.1, aa, by rw [g9.2]; omega⟩), ew]
        refine ⟨(U a, i + 1, hput m (Q + 9) a (m (Q + 9) a + 1)), ?_, ⟨⟨by simp only; omega, by simp only; omega⟩, by simp only; omega, by simp only; omega, fun c s hc => ?_, fun y y0 y1 => ?_, fun y => ?_⟩, by simp only; omega⟩
        · show (if kK ((hput m (Q + 9) a (m (Q + 9) a + 1)) Q 13) = 21 ∧ (0 : Int) ≤ a ∧ a < kL ((hput m (Q + 9) a (m (Q + 9) a + 1)) Q 13) then some (Sum.inl ((hput m (Q + 9) a (m (Q + 9) a + 1)) ((hput m (Q + 9) a (m (Q + 9) a + 1)) Q 13) a, w32 (i + 1), hput m (Q + 9) a (m (Q + 9) a + 1))) else none) = _
          rw [s13, if_pos (show kK (Q + 8) = 21 ∧ (0 : Int) ≤ a ∧ a < kL (Q + 8) from ⟨g8.1, aa, by rw [g8.2]; omega⟩), u, show w32 (i + 1) = i + 1 by unfold w32; omega]
        · simp only
          rw [hput_ne1 hc]
          exact fr c s hc
        · simp only
          by_cases hy : y = a
          · rw [hy, hput_eq]; omega
          · rw [hput_ne2 hy]
            have := bd y y0 y1
            omega
        · simp only
          have iy := iv y
          rw [hn'] at iy
          unfold anB at iy
          rw [if_neg ha] at iy
          rw [show (12 - (i + 1)).toNat = n by omega]
          by_cases hy : a = y
          · subst hy
            rw [if_pos rfl, if_pos rfl] at iy
            rw [hput_eq]
            have nf : ¬ anB U n (U a) a = true := by
              intro z
              have := anB_le D n (U a) a (by omega) (by omega) z
              omega
            rw [if_neg nf, Int.add_zero]
            exact iy
          · rw [if_neg hy] at iy
            rw [hput_ne2 (fun z => hy z.symm)]
            exact iy) LN (x, 0, f) ⟨⟨Int.le_refl 0, show (0 : Int) ≤ 12 by decide⟩, Or.inr x0, x1, fun _ _ _ => rfl, fun y y0 y1 => by have := hn y y0 y1; simp only; omega, fun y => rfl⟩ (by unfold LN; simp only; omega)
  exact ⟨r, e, p1, p2⟩
end
