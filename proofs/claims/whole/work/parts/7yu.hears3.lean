/-! test: the reference hears the text -/
def hl40 (h : Hp) : Option ((Hp) ⊕ ((Hp) ⊕ (Hp))) := M_hears_j55 121 ((if 40 ≤ h 121 60 then 0 else 1)) 121 h
theorem hl_eq (h : Hp) : M_hears_L19 121 h = if kK 121 = 11 then if h 121 61 = 0 then some (.inr (.inr (h))) else if h 121 25 = 0 then if h 121 60 = 0 then (if kK 121 = 11 then hl40 h else none) else some (.inr (.inr (h))) else (if kK 121 = 11 then hl40 h else none) else none := rfl
def hsQ (z : (Hp) ⊕ (Hp)) : Option Hp := match z with
  | .inl e65 => some e65
  | .inr e178 => some e178
theorem hears_eq (h : Hp) : M_hears 121 h = if kK 121 = 11 then ob (M_numberToken 121 (hput (hput (hput h 121 23 0) 121 60 0) 121 61 1)) (fun r16 => ob (loopN (fun q => M_hears_L19 121 q) LN r16) (fun z => hsQ z)) else none := rfl
section
variable {g g' : Hp} {tl : Int} {tp : Int → Int}
theorem kn_0 {P : Int} (P0 : 0 ≤ P) : knA tl tp P = 0 ↔ tl ≤ P := by
  constructor
  · intro z
    by_cases hl : tl ≤ P
    · exact hl
    · exfalso
      have : tpC tl tp P = tp P % 256 := by unfold tpC; rw [if_pos (by omega)]
      unfold knA at z
      split at z
      · omega
      · split at z
        · omega
        · split at z <;> omega
  · intro z
    unfold knA
    rw [tpC_out z, if_neg (by decide), if_pos rfl]
theorem M_hears_ok (E : HeE g tl tp) : ∃ g', M_hears 121 g = some g' ∧ HeF g g' ∧ ((∃ ps, parA tl tp = some ps ∧ g' 121 61 = 1 ∧ TrM g' ps) ∨ (parA tl tp = none ∧ g' 121 61 = 0)) := by
  have t0 := E.1.2.1
  have t1 := E.1.2.2
  rw [hears_eq, if_pos kK_121]
  generalize hf : hput (hput (hput g 121 23 0) 121 60 0) 121 61 1 = f
  have Ff : HeF g f := by
    intro c s z1 z2
    rw [← hf]
    rcases z1 with z | z
    · rw [hput_ne1 z, hput_ne1 z, hput_ne1 z]
    · rw [hput_ne2 z.2.2.2.2.2, hput_ne2 z.2.2.2.2.1, hput_ne2 z.1]
  obtain ⟨g1, x1, F1, T1⟩ := numberToken_ok (HeE_f E Ff) (p := 0) (by rw [← hf, hput_ne2 (by decide), hput_ne2 (by decide), hput_eq]) (Int.le_refl _) (by decide)
  have g60 : g1 121 60 = 0 := by rw [F1 121 60 (Or.inr (by decide)), ← hf, hput_ne2 (by decide), hput_eq]
  have g61 : g1 121 61 = 1 := by rw [F1 121 61 (Or.inr (by decide)), ← hf, hput_eq]
  have bl := blA_le (tl := tl) (tp := tp) 0
  rw [x1, ob_some]
  obtain ⟨r, e, q1, q2⟩ := loop_ok (body := fun q => M_hears_L19 121 q) (fun m => HeF g m ∧ ((m 121 61 = 0 ∧ parA tl tp = none) ∨ (m 121 61 = 1 ∧ ∃ ps P, TrM m ps ∧ ps.length ≤ 40 ∧ TkS m tl tp P ∧ 0 ≤ P ∧ P ≤ tl ∧ parA tl tp = if tl ≤ P ∧ ps.length = 0 then none else parN tl tp (42 - ps.length) P ps))) (fun m => if m 121 61 = 0 then 0 else (100 - m 121 60).toNat) (fun z => ∃ g', hsQ z = some g' ∧ HeF g g' ∧ ((∃ ps, parA tl tp = some ps ∧ g' 121 61 = 1 ∧ TrM g' ps) ∨ (parA tl tp = none ∧ g' 121 61 = 0))) (by
    intro m ⟨fr, st⟩
    show (∃ s', M_hears_L19 121 m = _ ∧ _) ∨ (∃ r, M_hears_L19 121 m = _ ∧ _)
    have Em := HeE_f E fr
    rw [hl_eq, if_pos kK_121]
    rcases st with ⟨s1, s2⟩ | ⟨s1, ps, P, s2, s3, s4, s5, s6, s7⟩
    · right
      rw [if_pos s1]
      exact ⟨_, rfl, m, rfl, fr, Or.inr ⟨s2, s1⟩⟩
    · rw [if_neg (by omega), s4.1, s2.1]
      obtain ⟨fu, hfu⟩ : ∃ fu : Nat, 42 - ps.length = fu + 1 := ⟨41 - ps.length, by omega⟩
      have ep : parN tl tp (42 - ps.length) P ps = if tl ≤ P then some ps else if 40 ≤ ps.length then none else match stepA tl tp ps.length P with
          | none => none
          | some (t, p') => parN tl tp fu p' (t :: ps) := by rw [hfu]; rfl
      -- one more step is heard, or it is bad
      have go : (tl ≤ P → ps.length = 0) → (∃ s', hl40 m = some (Sum.inl s') ∧ (HeF g s' ∧ ((s' 121 61 = 0 ∧ parA tl tp = none) ∨ (s' 121 61 = 1 ∧ ∃ ps P, TrM s' ps ∧ ps.length ≤ 40 ∧ TkS s' tl tp P ∧ 0 ≤ P ∧ P ≤ tl ∧ parA tl tp = if tl ≤ P ∧ ps.length = 0 then none else parN tl tp (42 - ps.length) P ps))) ∧ (if s' 121 61 = 0 then 0 else (100 - s' 121 60).toNat) < (if m 121 61 = 0 then 0 else (100 - (ps.length : Int)).toNat)) ∨ (∃ r, hl40 m = some (Sum.inr r) ∧ ∃ g', hsQ r = some g' ∧ HeF g g' ∧ ((∃ ps, parA tl tp = some ps ∧ g' 121 61 = 1 ∧ TrM g' ps) ∨ (parA tl tp = none ∧ g' 121 61 = 0))) := by
        intro hne
        unfold hl40
        rw [s2.1, hr_j55, if_pos kK_121]
        by_cases h40 : (40 : Int) ≤ (ps.length : Int)
        · right
          rw [if_pos h40, if_pos (Or.inl rfl)]
          unfold hr0
          rw [if_pos kK_121, hput_eq, if_pos rfl]
          refine ⟨_, rfl, _, rfl, fr.tr (fun c s z1 z2 => ?_), Or.inr ⟨?_, hput_eq _ _ _ _⟩⟩
          · rcases z1 with z | z
            · exact hput_ne1 z
            · exact hput_ne2 z.2.2.2.2.2
          · have hl : ¬ tl ≤ P := fun z => by have := hne z; omega
            rw [s7, if_neg (fun z => hl z.1), ep, if_neg hl, if_pos (show 40 ≤ ps.length by omega)]
        · left
          rw [if_neg h40, if_pos (Or.inr rfl)]
          have eh : hput m 121 61 1 = m := by
            funext c s
            by_cases hc : c = 121
            · by_cases hs : s = 61
              · rw [hc, hs, hput_eq, s1]
              · exact hput_ne2 hs
            · exact hput_ne1 hc
          rw [eh]
          obtain ⟨m', y, F', ys⟩ := hr0_ok Em s2 (by omega) s4 s1 s5 s6
          rcases ys with ⟨t, p', y1, y2, y3, y4⟩ | ⟨y1, y2⟩
          · have hl : ¬ tl ≤ P := fun z => by
              have dz : ddA tl tp P = false := by unfold ddA; rw [tpC_out z]; rfl
              unfold stepA at y1
              rw [if_pos (hne z), if_neg (by rw [dz]; simp)] at y1
              exact absurd y1 (by simp)
            have si := stepA_in t0 s5 s6 y1
            refine ⟨m', y, ⟨fr.tr F', Or.inr ⟨y2, t :: ps, p', y4, ?_, y3, si.1, si.2.1, ?_⟩⟩, ?_⟩
            · show ps.length + 1 ≤ 40; omega
            · rw [s7, if_neg (fun z => hl z.1), ep, if_neg hl, if_neg (show ¬ 40 ≤ ps.length by omega), y1, if_neg (fun z => by have : ps.length + 1 = 0 := z.2; omega), show 42 - (t :: ps).length = fu by show 42 - (ps.length + 1) = fu; omega]
            · rw [if_neg (by omega), if_neg (by omega), y4.1]
              show (100 - ((ps.length + 1 : Nat) : Int)).toNat < _
              omega
          · refine ⟨m', y, ⟨fr.tr F', Or.inl ⟨y2, ?_⟩⟩, ?_⟩
            · rw [s7]
              by_cases hl : tl ≤ P
              · rw [if_pos ⟨hl, hne hl⟩]
              · rw [if_neg (fun z => hl z.1), ep, if_neg hl, if_neg (show ¬ 40 ≤ ps.length by omega), y1]
            · rw [if_pos y2, if_neg (by omega)]
              omega
      by_cases h0 : knA tl tp P = 0
      · rw [if_pos h0]
        have hl := (kn_0 s5).mp h0
        by_cases hk : (ps.length : Int) = 0
        · rw [if_pos hk, if_pos kK_121]
          exact go (fun _ => by omega)
        · right
          rw [if_neg hk]
          refine ⟨_, rfl, m, rfl, fr, Or.inl ⟨ps, ?_, s1, s2⟩⟩
          rw [s7, if_neg (fun z => hk (by have := z.2; omega)), ep, if_pos hl]
      · rw [if_neg h0, if_pos kK_121]
        exact go (fun z => absurd ((kn_0 s5).mpr z) h0)) LN g1 ⟨Ff.tr F1.he, Or.inr ⟨g61, [], blA tl tp 0, ⟨g60, fun i a b => by have : i < ((0 : Nat) : Int) := b; omega⟩, by show 0 ≤ 40; omega, T1, bl.1, bl.2.1 t0, by
      unfold parA
      by_cases hl : tl ≤ blA tl tp 0
      · rw [if_pos hl, if_pos ⟨hl, rfl⟩]
      · rw [if_neg hl, if_neg (fun z => hl z.1)]; rfl⟩⟩ (by
      rw [g61, g60]
      unfold LN
      rw [if_neg (by decide)]
      omega)
  rw [e, ob_some]
  obtain ⟨a, b⟩ := q2
  rw [a]
  exact ⟨q1, rfl, b⟩
end
