/-! grammar: the reference's faults and signs -/
section
variable {g : Hp}
theorem mg_good : M_good 121 g = some (if g 121 27 = 0 then 1 else 0) := by
  unfold M_good
  rw [if_pos kK_121]
theorem mg_errs (c P : Int) : M_errsAt 121 c P g = some (if g 121 27 = 0 then hput (hput g 121 27 c) 121 28 P else g) := by
  unfold M_errsAt
  rw [if_pos kK_121, mg_good, ob_some]
  by_cases z : g 121 27 = 0
  · rw [if_pos z, if_neg (by decide), if_pos z]
  · rw [if_neg z, if_pos rfl, if_neg z]
theorem mg_sign (s : Int) : M_isSign 121 s g = some (if g 121 27 = 0 ∧ g 121 25 = 4 ∧ g 121 26 = s then 1 else 0) := by
  unfold M_isSign M_isSign_j27
  rw [if_pos kK_121, mg_good, ob_some]
  by_cases z : g 121 27 = 0
  · rw [if_pos z, if_neg (by decide)]
    by_cases a : g 121 25 = 4
    · rw [if_pos a]
      by_cases b : g 121 26 = s
      · rw [if_pos b, if_pos ⟨z, a, b⟩]
      · rw [if_neg b, if_neg (fun w => b w.2.2)]
    · rw [if_neg a, if_neg (fun w => a w.2.1)]
  · rw [if_neg z, if_pos rfl, if_neg (fun w => z w.1)]
end
