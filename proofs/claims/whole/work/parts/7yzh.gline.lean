/-! grammar: the reference seeks the next line -/
def al1 (f : Hp) : Option Hp := ob (M_see 121 (f 121 23) f) (fun r9 => if r9 = 116 then ob (M_see 121 (w32 ((f 121 23) + 1)) f) (fun r24 => if r24 = 114 then ob (M_see 121 (w32 ((f 121 23) + 2)) f) (fun r39 => if r39 = 101 then ob (M_see 121 (w32 ((f 121 23) + 3)) f) (fun r54 => if r54 = 101 then some (hput (hput f 121 25 1) 121 23 (w32 (((hput f 121 25 1) 121 23) + 4))) else M_advanceLine_j78 121 f) else M_advanceLine_j78 121 f) else M_advanceLine_j78 121 f) else M_advanceLine_j78 121 f)
theorem advanceLine_eq (g : Hp) : M_advanceLine 121 g = if kK 121 = 11 then ob (M_skips 121 g) (fun r => al1 r) else none := rfl
section
variable {g : Hp} {tl : Int} {tp : Int → Int}
theorem advanceLine_ok (E : HeE g tl tp) {p : Int} (hp : g 121 23 = p) (p0 : 0 ≤ p) (p1 : p ≤ 402) : ∃ g', M_advanceLine 121 g = some g' ∧ TkF g g' ∧ g' 121 24 = blA tl tp p ∧ ((wdA tl tp (blA tl tp p) ∧ g' 121 25 = 1 ∧ g' 121 23 = blA tl tp p + 4) ∨ (¬ wdA tl tp (blA tl tp p) ∧ g' 121 25 = (if tpC tl tp (blA tl tp p) = -1 then 0 else 5) ∧ g' 121 23 = blA tl tp p)) := by
  obtain ⟨f, e, F, e23⟩ := skips_ok E hp p0 p1
  have e24 := skips_24 e
  rw [e23] at e24
  have bl := blA_le (tl := tl) (tp := tp) p
  have bb : 0 ≤ blA tl tp p ∧ blA tl tp p ≤ 402 := by
    have t1 := E.1.2.2
    by_cases z : p ≤ tl
    · have := bl.2.1 z; omega
    · have := bl.2.2 (by omega); omega
  have Ef := HeE_f E F.he
  generalize hP : blA tl tp p = P at e23 e24 bb
  have w1 : w32 (P + 1) = P + 1 := by unfold w32; omega
  have w2 : w32 (P + 2) = P + 2 := by unfold w32; omega
  have w3 : w32 (P + 3) = P + 3 := by unfold w32; omega
  have w4 : w32 (P + 4) = P + 4 := by unfold w32; omega
  have q : (hput f 121 25 1) 121 23 = P := by rw [hput_ne2 (by decide)]; exact e23
  rw [advanceLine_eq, if_pos kK_121, e, ob_some]
  unfold al1
  rw [q, w4, e23, w1, w2, w3, see_ok Ef bb.1, ob_some, see_ok Ef (show 0 ≤ P + 1 by omega), ob_some, see_ok Ef (show 0 ≤ P + 2 by omega), ob_some, see_ok Ef (show 0 ≤ P + 3 by omega), ob_some]
  have no : ¬ wdA tl tp P → ∃ g', M_advanceLine_j78 121 f = some g' ∧ TkF g g' ∧ g' 121 24 = P ∧ ((wdA tl tp P ∧ g' 121 25 = 1 ∧ g' 121 23 = P + 4) ∨ (¬ wdA tl tp P ∧ g' 121 25 = (if tpC tl tp P = -1 then 0 else 5) ∧ g' 121 23 = P)) := by
    intro nw
    unfold M_advanceLine_j78 M_advanceLine_j96
    rw [if_pos kK_121, e23, see_ok Ef bb.1, ob_some, if_pos kK_121]
    refine ⟨_, rfl, fun c i z => ?_, ?_, Or.inr ⟨nw, ?_, ?_⟩⟩
    · rw [← F c i z]
      rcases z with z | z
      · rw [hput_ne1 z]
      · rw [hput_ne2 z.2.2.1]
    · rw [hput_ne2 (by decide)]; exact e24
    · rw [hput_eq]
    · rw [hput_ne2 (by decide)]; exact e23
  by_cases a : tpC tl tp P = 116
  · rw [if_pos a]
    by_cases b : tpC tl tp (P + 1) = 114
    · rw [if_pos b]
      by_cases c : tpC tl tp (P + 2) = 101
      · rw [if_pos c]
        by_cases d : tpC tl tp (P + 3) = 101
        · rw [if_pos d]
          refine ⟨_, rfl, fun c i z => ?_, ?_, Or.inl ⟨⟨a, b, c, d⟩, ?_, ?_⟩⟩
          · rw [← F c i z]
            rcases z with z | z
            · rw [hput_ne1 z, hput_ne1 z]
            · rw [hput_ne2 z.1, hput_ne2 z.2.2.1]
          · rw [hput_ne2 (by decide), hput_ne2 (by decide)]; exact e24
          · rw [hput_ne2 (by decide), hput_eq]
          · rw [hput_eq]
        · rw [if_neg d]
          exact no (fun z => d z.2.2.2)
      · rw [if_neg c]
        exact no (fun z => c z.2.2.1)
    · rw [if_neg b]
      exact no (fun z => b z.2.1)
  · rw [if_neg a]
    exact no (fun z => a z.1)
end
