/-! grammar: the text read by plain recursion -/
/-- how many nodes: var a letter, zero nothing, neg a foot, sub a place, intMul a branch over one, add x (intMul ..) a branch over two -/
def szT : Dv → Nat
  | .zero => 1
  | .var _ => 1
  | .neg _ => 1
  | .sub _ _ => 1
  | .natMul _ _ => 1
  | .intMul _ x => szT x + 1
  | .add x y => szT x + szT y
def ltT : Dv → Nat
  | .zero => 0
  | .var _ => 1
  | .neg _ => 0
  | .sub _ _ => 0
  | .natMul _ _ => 0
  | .intMul _ x => ltT x
  | .add x y => ltT x + ltT y
def ftT : Dv → Nat
  | .zero => 0
  | .var _ => 0
  | .neg _ => 1
  | .sub _ _ => 0
  | .natMul _ _ => 0
  | .intMul _ x => ftT x
  | .add x y => ftT x + ftT y
def isLb (s : Int) : Bool := decide (65 ≤ s ∧ s ≤ 90)
def isLt (s : Int) : Bool := decide (97 ≤ s ∧ s ≤ 122)
def rmN (b N : Int) : Bool := decide (N < 40 ∧ N - b < 12)
abbrev PRs : Type := (Int × Int) ⊕ (Dv × Int × Bool)
section
variable (tl : Int) (tp : Int → Int)
/-- the mark at a place, and where one goes on -/
def mkA (p : Int) : Int := if tpC tl tp p = 33 then 1 else if tpC tl tp p = 43 then 2 else 0
def mkP (p : Int) : Int := if mkA tl tp p = 0 then p else blA tl tp (p + 1)
/-- a branch from its label on (true), up to what should be its closing; a part (false) -/
def gP : Nat → Bool → Int → Int → Int → Int → Bool → PRs
  | 0, _, _, _, p, _, _ => .inl (1, p)
  | f + 1, true, b, rl, p, N, fo =>
    if isLb (tpC tl tp p) = false then .inl (1, p)
    else if rmN b N = false then .inl (3, p)
    else
      match gP f false b (if N = b then tpC tl tp p - 65 else rl) (mkP tl tp (blA tl tp (p + 1))) (N + 1) fo with
      | .inl e => .inl e
      | .inr (x, p3, fo1) =>
        if tpC tl tp p3 = 41 then .inr (.intMul (tpC tl tp p - 65 + 26 * mkA tl tp (blA tl tp (p + 1))) x, p3, fo1)
        else
          match gP f false b (if N = b then tpC tl tp p - 65 else rl) p3 (N + 1 + szT x) fo1 with
          | .inl e => .inl e
          | .inr (y, p4, fo2) => .inr (.add x (.intMul (tpC tl tp p - 65 + 26 * mkA tl tp (blA tl tp (p + 1))) y), p4, fo2)
  | f + 1, false, b, rl, p, N, fo =>
    if tpC tl tp p = 40 then
      match gP f true b rl (blA tl tp (p + 1)) N fo with
      | .inl e => .inl e
      | .inr (x, p', fo') => if tpC tl tp p' = 41 then .inr (x, blA tl tp (p' + 1), fo') else .inl (1, p')
    else if isLb (tpC tl tp p) = true then
      if tpC tl tp (blA tl tp (p + 1)) = 42 ∧ (fo = true ∨ rl ≠ tpC tl tp p - 65) then .inl (2, p)
      else if rmN b N = false then .inl (3, p)
      else if tpC tl tp (blA tl tp (p + 1)) = 42 then .inr (.neg (.var (tpC tl tp p - 65).toNat), blA tl tp (blA tl tp (p + 1) + 1), true)
      else if tpC tl tp (blA tl tp (p + 1)) = 94 then .inr (.sub .zero (.var (tpC tl tp p - 65).toNat), blA tl tp (blA tl tp (p + 1) + 1), fo)
      else .inl (1, blA tl tp (p + 1))
    else if isLt (tpC tl tp p) = true then
      if rmN b N = false then .inl (3, p) else .inr (.var (tpC tl tp p - 97).toNat, blA tl tp (p + 1), fo)
    else if tpC tl tp p = 46 then
      if rmN b N = false then .inl (3, p) else .inr (.zero, blA tl tp (p + 1), fo)
    else .inl (1, p)
end
section
variable {tl : Int} {tp : Int → Int}
theorem szT_pos : ∀ d : Dv, 1 ≤ szT d
  | .zero => Nat.le_refl 1
  | .var _ => Nat.le_refl 1
  | .neg _ => Nat.le_refl 1
  | .sub _ _ => Nat.le_refl 1
  | .natMul _ _ => Nat.le_refl 1
  | .intMul _ x => Nat.le_add_left 1 (szT x)
  | .add x y => by
    have := szT_pos x
    show 1 ≤ szT x + szT y
    omega
/-- what is read has room, and goes on -/
theorem gP_in : ∀ (f : Nat) (br : Bool) (b rl p N : Int) (fo : Bool) (x : Dv) (p' : Int) (fo' : Bool), 0 ≤ p → gP tl tp f br b rl p N fo = .inr (x, p', fo') → p < p' ∧ (N + (szT x : Int) ≤ 40 ∧ N + (szT x : Int) - b ≤ 12)
  | 0, _, _, _, _, _, _, _, _, _, _, e => by
    unfold gP at e
    exact absurd e (by simp)
  | f + 1, true, b, rl, p, N, fo, x, p', fo', p0, e => by
    unfold gP at e
    have b1 := (blA_le (tl := tl) (tp := tp) (p + 1)).1
    have b2 := (blA_le (tl := tl) (tp := tp) (blA tl tp (p + 1) + 1)).1
    have mp : p < mkP tl tp (blA tl tp (p + 1)) := by
      unfold mkP
      by_cases z : mkA tl tp (blA tl tp (p + 1)) = 0
      · rw [if_pos z]; omega
      · rw [if_neg z]; omega
    by_cases h1 : isLb (tpC tl tp p) = false
    · rw [if_pos h1] at e; exact absurd e (by simp)
    · rw [if_neg h1] at e
      by_cases h2 : rmN b N = false
      · rw [if_pos h2] at e; exact absurd e (by simp)
      · rw [if_neg h2] at e
        cases hx : gP tl tp f false b (if N = b then tpC tl tp p - 65 else rl) (mkP tl tp (blA tl tp (p + 1))) (N + 1) fo with
        | inl z => rw [hx] at e; exact absurd e (by simp)
        | inr z =>
          obtain ⟨u, p3, fo1⟩ := z
          rw [hx] at e
          have i1 := gP_in f false _ _ _ _ _ _ _ _ (by omega) hx
          simp only at e
          by_cases h3 : tpC tl tp p3 = 41
          · rw [if_pos h3] at e
            injection e with e
            injection e with e1 e2
            injection e2 with e2 e3
            rw [← e1, ← e2]
            have : (szT (.intMul (tpC tl tp p - 65 + 26 * mkA tl tp (blA tl tp (p + 1))) u) : Int) = szT u + 1 := by show ((szT u + 1 : Nat) : Int) = _; omega
            omega
          · rw [if_neg h3] at e
            cases hy : gP tl tp f false b (if N = b then tpC tl tp p - 65 else rl) p3 (N + 1 + szT u) fo1 with
            | inl z => rw [hy] at e; exact absurd e (by simp)
            | inr z =>
              obtain ⟨w, p4, fo2⟩ := z
              rw [hy] at e
              have i2 := gP_in f false _ _ _ _ _ _ _ _ (by omega) hy
              simp only at e
              injection e with e
              injection e with e1 e2
              injection e2 with e2 e3
              rw [← e1, ← e2]
              have : (szT (.add u (.intMul (tpC tl tp p - 65 + 26 * mkA tl tp (blA tl tp (p + 1))) w)) : Int) = szT u + szT w + 1 := by show ((szT u + (szT w + 1) : Nat) : Int) = _; omega
              omega
  | f + 1, false, b, rl, p, N, fo, x, p', fo', p0, e => by
    unfold gP at e
    have b1 := (blA_le (tl := tl) (tp := tp) (p + 1)).1
    have b2 := (blA_le (tl := tl) (tp := tp) (blA tl tp (p + 1) + 1)).1
    have leaf : ∀ (y : Dv) (q : Int) (g : Bool), ¬ rmN b N = false → szT y = 1 → p < q → (Sum.inr (y, q, g) : PRs) = .inr (x, p', fo') → p < p' ∧ (N + (szT x : Int) ≤ 40 ∧ N + (szT x : Int) - b ≤ 12) := by
      intro y q g r s1 hq e
      injection e with e
      injection e with e1 e2
      injection e2 with e2 e3
      rw [← e1, ← e2, s1]
      unfold rmN at r
      simp at r
      omega
    by_cases h1 : tpC tl tp p = 40
    · rw [if_pos h1] at e
      cases hx : gP tl tp f true b rl (blA tl tp (p + 1)) N fo with
      | inl z => rw [hx] at e; exact absurd e (by simp)
      | inr z =>
        obtain ⟨u, p3, fo1⟩ := z
        rw [hx] at e
        have i1 := gP_in f true _ _ _ _ _ _ _ _ (by omega) hx
        have b3 := (blA_le (tl := tl) (tp := tp) (p3 + 1)).1
        simp only at e
        by_cases h3 : tpC tl tp p3 = 41
        · rw [if_pos h3] at e
          injection e with e
          injection e with e1 e2
          injection e2 with e2 e3
          rw [← e1, ← e2]
          omega
        · rw [if_neg h3] at e; exact absurd e (by simp)
    · rw [if_neg h1] at e
      by_cases h2 : isLb (tpC tl tp p) = true
      · rw [if_pos h2] at e
        by_cases h3 : tpC tl tp (blA tl tp (p + 1)) = 42 ∧ (fo = true ∨ rl ≠ tpC tl tp p - 65)
        · rw [if_pos h3] at e; exact absurd e (by simp)
        · rw [if_neg h3] at e
          by_cases h4 : rmN b N = false
          · rw [if_pos h4] at e; exact absurd e (by simp)
          · rw [if_neg h4] at e
            by_cases h5 : tpC tl tp (blA tl tp (p + 1)) = 42
            · rw [if_pos h5] at e
              exact leaf _ _ _ h4 rfl (by omega) e
            · rw [if_neg h5] at e
              by_cases h6 : tpC tl tp (blA tl tp (p + 1)) = 94
              · rw [if_pos h6] at e
                exact leaf _ _ _ h4 rfl (by omega) e
              · rw [if_neg h6] at e; exact absurd e (by simp)
      · rw [if_neg h2] at e
        by_cases h3 : isLt (tpC tl tp p) = true
        · rw [if_pos h3] at e
          by_cases h4 : rmN b N = false
          · rw [if_pos h4] at e; exact absurd e (by simp)
          · rw [if_neg h4] at e
            exact leaf _ _ _ h4 rfl (by omega) e
        · rw [if_neg h3] at e
          by_cases h5 : tpC tl tp p = 46
          · rw [if_pos h5] at e
            by_cases h4 : rmN b N = false
            · rw [if_pos h4] at e; exact absurd e (by simp)
            · rw [if_neg h4] at e
              exact leaf _ _ _ h4 rfl (by omega) e
          · rw [if_neg h5] at e; exact absurd e (by simp)
end
