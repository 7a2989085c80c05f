/-! grammar: the reference's tokens -/
def knG (s : Int) : Int := if s = -1 then 0 else if isLb s = true then 2 else if isLt s = true then 3 else if s = 40 ∨ s = 41 ∨ s = 59 ∨ s = 46 ∨ s = 42 ∨ s = 94 ∨ s = 33 ∨ s = 43 then 4 else 5
def vlG (s : Int) : Int := if isLb s = true then s - 65 else if isLt s = true then s - 97 else s
def TokG (g : Hp) (tl : Int) (tp : Int → Int) (P : Int) : Prop := g 121 24 = P ∧ g 121 25 = knG (tpC tl tp P) ∧ g 121 26 = vlG (tpC tl tp P) ∧ g 121 23 = if tpC tl tp P = -1 then P else P + 1
def ad3 (r9 : Int) (f : Hp) : Option Hp := ob (M_in r9 65 90) (fun r47 => if r47 = 0 then ob (M_in r9 97 122) (fun r77 => if r77 = 0 then (if r9 = 40 then M_advance_j148 121 f else if r9 = 41 then M_advance_j148 121 f else if r9 = 59 then M_advance_j148 121 f else if r9 = 46 then M_advance_j148 121 f else if r9 = 42 then M_advance_j148 121 f else if r9 = 94 then M_advance_j148 121 f else if r9 = 33 then M_advance_j148 121 f else if r9 = 43 then M_advance_j148 121 f else M_advance_j153 5 121 f) else some (hput (hput f 121 25 3) 121 26 (w32 (r9 - 97)))) else some (hput (hput f 121 25 2) 121 26 (w32 (r9 - 65))))
def ad2 (r9 : Int) (f : Hp) : Option Hp := if r9 = (-1) then some (hput f 121 25 0) else ad3 r9 (hput f 121 23 (w32 ((f 121 23) + 1)))
def ad1 (f : Hp) : Option Hp := ob (M_see 121 (f 121 23) f) (fun r9 => ad2 r9 (hput f 121 26 r9))
theorem advance_eq (g : Hp) : M_advance 121 g = if kK 121 = 11 then ob (M_skips 121 g) (fun r => ad1 r) else none := rfl
section
variable {g : Hp} {tl : Int} {tp : Int → Int}
theorem skips_24 {g' : Hp} (e : M_skips 121 g = some g') : g' 121 24 = g' 121 23 := by
  unfold M_skips at e
  cases hl : loopN (fun q => M_skips_L0 121 q) LN g with
  | none => rw [hl] at e; exact absurd e (by unfold ob; simp)
  | some f =>
    rw [hl, ob_some, if_pos kK_121] at e
    injection e with e
    rw [← e, hput_eq, hput_ne2 (by decide)]
theorem m_in (s a b : Int) : M_in s a b = some (if a ≤ s ∧ s ≤ b then 1 else 0) := by
  unfold M_in M_in_j17
  by_cases h0 : s < a
  · rw [if_pos h0, if_neg (by omega)]
  · rw [if_neg h0]
    by_cases h1 : b < s
    · rw [if_pos h1, if_neg (by omega)]
    · rw [if_neg h1, if_pos (by omega)]
theorem ad3_ok {s : Int} {f : Hp} (s0 : 0 ≤ s) (s1 : s < 256) (e26 : f 121 26 = s) : ∃ f', ad3 s f = some f' ∧ (∀ c i, (c ≠ 121 ∨ (i ≠ 25 ∧ i ≠ 26)) → f' c i = f c i) ∧ f' 121 25 = knG s ∧ f' 121 26 = vlG s := by
  have fr2 : ∀ a b, ∀ c i, (c ≠ 121 ∨ (i ≠ 25 ∧ i ≠ 26)) → (hput (hput f 121 25 a) 121 26 b) c i = f c i := fun a b c i z => by
    rcases z with z | z
    · rw [hput_ne1 z, hput_ne1 z]
    · rw [hput_ne2 z.2, hput_ne2 z.1]
  have fr1 : ∀ a, ∀ c i, (c ≠ 121 ∨ (i ≠ 25 ∧ i ≠ 26)) → (hput f 121 25 a) c i = f c i := fun a c i z => by
    rcases z with z | z
    · rw [hput_ne1 z]
    · rw [hput_ne2 z.1]
  unfold ad3
  rw [m_in, ob_some, m_in, ob_some]
  by_cases hb : 65 ≤ s ∧ s ≤ 90
  · have ib : isLb s = true := by unfold isLb; simp; omega
    rw [if_pos hb, if_neg (by decide), show w32 (s - 65) = s - 65 by unfold w32; omega]
    refine ⟨_, rfl, fr2 _ _, ?_, ?_⟩
    · rw [hput_ne2 (by decide), hput_eq]
      unfold knG
      rw [if_neg (by omega), if_pos ib]
    · rw [hput_eq]
      unfold vlG
      rw [if_pos ib]
  · have ib : ¬ isLb s = true := by unfold isLb; simp; omega
    rw [if_neg hb, if_pos rfl]
    by_cases hl : 97 ≤ s ∧ s ≤ 122
    · have il : isLt s = true := by unfold isLt; simp; omega
      rw [if_pos hl, if_neg (by decide), show w32 (s - 97) = s - 97 by unfold w32; omega]
      refine ⟨_, rfl, fr2 _ _, ?_, ?_⟩
      · rw [hput_ne2 (by decide), hput_eq]
        unfold knG
        rw [if_neg (by omega), if_neg ib, if_pos il]
      · rw [hput_eq]
        unfold vlG
        rw [if_neg ib, if_pos il]
    · have il : ¬ isLt s = true := by unfold isLt; simp; omega
      have v : vlG s = s := by unfold vlG; rw [if_neg ib, if_neg il]
      rw [if_neg hl, if_pos rfl]
      have j4 : M_advance_j148 121 f = some (hput f 121 25 4) := by unfold M_advance_j148 M_advance_j153; rw [if_pos kK_121]
      have j5 : M_advance_j153 5 121 f = some (hput f 121 25 5) := by unfold M_advance_j153; rw [if_pos kK_121]
      have fin : ∀ k, k = knG s → ∃ f', some (hput f 121 25 k) = some f' ∧ (∀ c i, (c ≠ 121 ∨ (i ≠ 25 ∧ i ≠ 26)) → f' c i = f c i) ∧ f' 121 25 = knG s ∧ f' 121 26 = vlG s := fun k hk => ⟨_, rfl, fr1 _, by rw [hput_eq, hk], by rw [hput_ne2 (by decide), e26, v]⟩
      have k4 : (s = 40 ∨ s = 41 ∨ s = 59 ∨ s = 46 ∨ s = 42 ∨ s = 94 ∨ s = 33 ∨ s = 43) → 4 = knG s := fun z => by
        unfold knG
        rw [if_neg (by omega), if_neg ib, if_neg il, if_pos z]
      rw [j4, j5]
      by_cases a1 : s = 40
      · rw [if_pos a1]; exact fin 4 (k4 (by omega))
      rw [if_neg a1]
      by_cases a2 : s = 41
      · rw [if_pos a2]; exact fin 4 (k4 (by omega))
      rw [if_neg a2]
      by_cases a3 : s = 59
      · rw [if_pos a3]; exact fin 4 (k4 (by omega))
      rw [if_neg a3]
      by_cases a4 : s = 46
      · rw [if_pos a4]; exact fin 4 (k4 (by omega))
      rw [if_neg a4]
      by_cases a5 : s = 42
      · rw [if_pos a5]; exact fin 4 (k4 (by omega))
      rw [if_neg a5]
      by_cases a6 : s = 94
      · rw [if_pos a6]; exact fin 4 (k4 (by omega))
      rw [if_neg a6]
      by_cases a7 : s = 33
      · rw [if_pos a7]; exact fin 4 (k4 (by omega))
      rw [if_neg a7]
      by_cases a8 : s = 43
      · rw [if_pos a8]; exact fin 4 (k4 (by omega))
      rw [if_neg a8]
      refine fin 5 ?_
      unfold knG
      rw [if_neg (by omega), if_neg ib, if_neg il, if_neg (by omega)]
theorem advance_ok (E : HeE g tl tp) {p : Int} (hp : g 121 23 = p) (p0 : 0 ≤ p) (p1 : p ≤ 402) : ∃ g', M_advance 121 g = some g' ∧ TkF g g' ∧ TokG g' tl tp (blA tl tp p) := by
  obtain ⟨f, e, F, e23⟩ := skips_ok E hp p0 p1
  have e24 := skips_24 e
  rw [e23] at e24
  have bl := blA_le (tl := tl) (tp := tp) p
  have bb : 0 ≤ blA tl tp p ∧ blA tl tp p ≤ 402 := by
    have t1 := E.1.2.2
    by_cases z : p ≤ tl
    · have := bl.2.1 z; omega
    · have := bl.2.2 (by omega); omega
  rw [advance_eq, if_pos kK_121, e, ob_some]
  unfold ad1
  rw [e23, see_ok (HeE_f E F.he) bb.1, ob_some]
  generalize hs : tpC tl tp (blA tl tp p) = s
  have si := tpC_in (tl := tl) (tp := tp) (p := blA tl tp p)
  rw [hs] at si
  unfold ad2
  by_cases hz : s = -1
  · rw [if_pos hz]
    refine ⟨_, rfl, fun c i z => ?_, ?_, ?_, ?_, ?_⟩
    · rw [← F c i z]
      rcases z with z | z
      · rw [hput_ne1 z, hput_ne1 z]
      · rw [hput_ne2 z.2.2.1, hput_ne2 z.2.2.2]
    · rw [hput_ne2 (by decide), hput_ne2 (by decide)]; exact e24
    · rw [hput_eq, hs, hz]; rfl
    · rw [hput_ne2 (by decide), hput_eq, hs, hz]; rfl
    · rw [hput_ne2 (by decide), hput_ne2 (by decide), hs, if_pos hz]; exact e23
  · rw [if_neg hz, hput_ne2 (show (23 : Int) ≠ 26 by decide), e23, show w32 (blA tl tp p + 1) = blA tl tp p + 1 by unfold w32; omega]
    obtain ⟨f', x, fr, q1, q2⟩ := ad3_ok (s := s) (f := hput (hput f 121 26 s) 121 23 (blA tl tp p + 1)) (by omega) si.2 (by rw [hput_ne2 (by decide), hput_eq])
    refine ⟨f', x, fun c i z => ?_, ?_, by rw [q1, hs], by rw [q2, hs], ?_⟩
    · rw [fr c i (by omega), ← F c i z]
      rcases z with z | z
      · rw [hput_ne1 z, hput_ne1 z]
      · rw [hput_ne2 z.1, hput_ne2 z.2.2.2]
    · rw [fr 121 24 (Or.inr (by decide)), hput_ne2 (by decide), hput_ne2 (by decide)]; exact e24
    · rw [fr 121 23 (Or.inr (by decide)), hput_eq, hs, if_neg hz]
end
