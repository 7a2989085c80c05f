/-! grammar: how the class goes over the text -/
/-- the reader of grammars: cell 7; Q the grammar that is filled -/
def GrE (h : Hp) (Q tl : Int) (tp : Int → Int) : Prop := TapX h tl tp ∧ h 1 0 = 2 ∧ h 7 2 = 1 ∧ h 7 3 = Q ∧ GrO Q ∧ GShp h Q
/-- place, open node, fault -/
def GrS (h : Hp) (p cur fc fp : Int) : Prop := h 7 4 = p ∧ h 7 5 = cur ∧ h 7 0 = fc ∧ h 7 1 = fp
section
variable {h h' : Hp} {Q tl p cur fc fp : Int} {tp : Int → Int}
theorem tx_at (T : TapX h tl tp) (e1 : h 1 0 = 2) {p : Int} (p0 : 0 ≤ p) : By_at 1 p h = some (tpC tl tp p) := by
  unfold By_at tpC
  rw [if_neg (by omega), if_pos (by decide), T.1]
  by_cases hp : tl ≤ p
  · rw [if_pos hp, if_neg (by omega)]
  · have := T.2.2.2 p p0 (by omega)
    have l2 := T.2.2.1
    rw [if_neg hp, e1, if_pos (by decide), if_pos (by rw [show kL 2 = 400 by decide]; omega), if_pos ⟨by decide, p0, by rw [show kL 2 = 400 by decide]; omega⟩, this.1, andFF this.2.1 this.2.2, if_pos (by omega)]
theorem tx_blanks (T : TapX h tl tp) (e1 : h 1 0 = 2) {p : Int} (p0 : 0 ≤ p) : By_afterBlanks 1 p h = some (blA tl tp p) := by
  have t0 := T.2.1
  have t1 := T.2.2.1
  unfold By_afterBlanks
  obtain ⟨r, e, pr⟩ := loop_ok (body := fun q => By_afterBlanks_L2 1 h q) (fun x => 0 ≤ x ∧ blA tl tp x = blA tl tp p ∧ (x ≤ tl ∨ x = p)) (fun x => (tl - x).toNat) (fun r => r = blA tl tp p) (by
    intro x ⟨x0, xe, xl⟩
    show (∃ s', By_afterBlanks_L2 1 h x = _ ∧ _) ∨ (∃ r, By_afterBlanks_L2 1 h x = _ ∧ _)
    unfold By_afterBlanks_L2 By_afterBlanks_j36
    rw [if_neg (by omega), if_pos (by decide), T.1]
    by_cases hx : tl ≤ x
    · right
      rw [if_pos hx]
      rw [blA_out hx] at xe
      exact ⟨_, rfl, xe⟩
    · have := T.2.2.2 x x0 (by omega)
      have eb := blA_eq (tl := tl) (tp := tp) (p := x) (by omega)
      have ec : tpC tl tp x = tp x % 256 := by unfold tpC; rw [if_pos ⟨x0, by omega⟩]
      rw [ec] at eb
      rw [if_neg hx, e1, if_pos ⟨by decide, x0, by rw [show kL 2 = 400 by decide]; omega⟩, this.1, show w32 (x + 1) = x + 1 by unfold w32; omega]
      by_cases h32 : tp x = 32
      · left
        rw [if_pos h32]
        rw [if_pos (by omega)] at eb
        exact ⟨_, rfl, ⟨by omega, by rw [← eb]; exact xe, Or.inl (by omega)⟩, by omega⟩
      · rw [if_neg h32]
        by_cases h10 : tp x = 10
        · left
          rw [if_pos h10]
          rw [if_pos (by omega)] at eb
          exact ⟨_, rfl, ⟨by omega, by rw [← eb]; exact xe, Or.inl (by omega)⟩, by omega⟩
        · right
          rw [if_neg h10]
          rw [if_neg (by omega)] at eb
          exact ⟨_, rfl, by rw [← xe]; exact eb.symm⟩) LN p ⟨p0, rfl, Or.inr rfl⟩ (by unfold LN; omega)
  rw [e, ob_some, pr]
theorem gr_sign (E : GrE h Q tl tp) (p0 : 0 ≤ h 7 4) : GR_sign 7 h = some (tpC tl tp (h 7 4)) := by
  unfold GR_sign
  rw [if_pos kK_7, E.2.2.1, if_pos (by decide), tx_at E.1 E.2.1 p0, ob_some]
theorem gr_goOn (E : GrE h Q tl tp) {k : Int} (p0 : 0 ≤ h 7 4) (p1 : h 7 4 ≤ 401) (k0 : 0 ≤ k) (k1 : k ≤ 4) : GR_goOn 7 k h = some (hput h 7 4 (blA tl tp (h 7 4 + k))) := by
  have ew : w32 (h 7 4 + k) = h 7 4 + k := by unfold w32; omega
  unfold GR_goOn
  rw [if_pos kK_7, E.2.2.1, if_pos (by decide), ew, tx_blanks E.1 E.2.1 (by omega), ob_some]
theorem gr_refuse (k : Int) : GR_refuse 7 k h = some (hput (hput h 7 0 k) 7 1 (h 7 4)) := by
  unfold GR_refuse
  rw [if_pos kK_7]
  simp only
  rw [hput_ne2 (by decide)]
theorem gr_label (s : Int) : GR_isLabel s = some (if isLb s = true then 1 else 0) := by
  unfold GR_isLabel GR_isLabel_j16 isLb
  by_cases h0 : s < 65
  · rw [if_pos h0, if_neg (by simp; omega)]
  · rw [if_neg h0]
    by_cases h1 : 90 < s
    · rw [if_pos h1, if_neg (by simp; omega)]
    · rw [if_neg h1, if_pos (by simp; omega)]
theorem gr_letter (s : Int) : X_isLetter s = some (if isLt s = true then 1 else 0) := by
  unfold X_isLetter X_isLetter_j16 isLt
  by_cases h0 : s < 97
  · rw [if_pos h0, if_neg (by simp; omega)]
  · rw [if_neg h0]
    by_cases h1 : 122 < s
    · rw [if_pos h1, if_neg (by simp; omega)]
    · rw [if_neg h1, if_pos (by simp; omega)]
/-- the word tree -/
def wdA (tl : Int) (tp : Int → Int) (p : Int) : Prop := tpC tl tp p = 116 ∧ tpC tl tp (p + 1) = 114 ∧ tpC tl tp (p + 2) = 101 ∧ tpC tl tp (p + 3) = 101
theorem gr_word (E : GrE h Q tl tp) (p0 : 0 ≤ h 7 4) (p1 : h 7 4 ≤ 401) : ∃ v, GR_isWord 7 h = some v ∧ ((v = 1 ∧ wdA tl tp (h 7 4)) ∨ (v = 0 ∧ ¬ wdA tl tp (h 7 4))) := by
  have w1 : w32 (h 7 4 + 1) = h 7 4 + 1 := by unfold w32; omega
  have w2 : w32 (h 7 4 + 2) = h 7 4 + 2 := by unfold w32; omega
  have w3 : w32 (h 7 4 + 3) = h 7 4 + 3 := by unfold w32; omega
  unfold GR_isWord GR_isWord_j74
  rw [if_pos kK_7, E.2.2.1, if_pos (by decide), tx_at E.1 E.2.1 p0, ob_some, w1, w2, w3, tx_at E.1 E.2.1 (show 0 ≤ h 7 4 + 1 by omega), ob_some, tx_at E.1 E.2.1 (show 0 ≤ h 7 4 + 2 by omega), ob_some, tx_at E.1 E.2.1 (show 0 ≤ h 7 4 + 3 by omega), ob_some]
  by_cases a : tpC tl tp (h 7 4) = 116
  · rw [if_pos a]
    by_cases b : tpC tl tp (h 7 4 + 1) = 114
    · rw [if_pos b]
      by_cases c : tpC tl tp (h 7 4 + 2) = 101
      · rw [if_pos c]
        by_cases d : tpC tl tp (h 7 4 + 3) = 101
        · rw [if_pos d]
          exact ⟨1, rfl, Or.inl ⟨rfl, a, b, c, d⟩⟩
        · rw [if_neg d]
          exact ⟨0, rfl, Or.inr ⟨rfl, fun z => d z.2.2.2⟩⟩
      · rw [if_neg c]
        exact ⟨0, rfl, Or.inr ⟨rfl, fun z => c z.2.2.1⟩⟩
    · rw [if_neg b]
      exact ⟨0, rfl, Or.inr ⟨rfl, fun z => b z.2.1⟩⟩
  · rw [if_neg a]
    exact ⟨0, rfl, Or.inr ⟨rfl, fun z => a z.1⟩⟩
end
/-- a loop after some turns -/
def runN {σ ρ : Type} (body : σ → Option (σ ⊕ ρ)) : Nat → σ → σ → Prop
  | 0, s, s' => s = s'
  | k + 1, s, s' => ∃ t, body s = some (.inl t) ∧ runN body k t s'
theorem runN_loop {σ ρ : Type} {body : σ → Option (σ ⊕ ρ)} : ∀ (k m : Nat) (s s' : σ), runN body k s s' → loopN body (k + m) s = loopN body m s'
  | 0, m, s, s', r => by
    rw [Nat.zero_add, show s = s' from r]
  | k + 1, m, s, s', r => by
    obtain ⟨t, e, r⟩ := r
    rw [show k + 1 + m = (k + m) + 1 by omega]
    show (match body s with
      | none => none
      | some (.inl s') => loopN body (k + m) s'
      | some (.inr r) => some r) = _
    rw [e]
    exact runN_loop k m t s' r
theorem runN_tr {σ ρ : Type} {body : σ → Option (σ ⊕ ρ)} : ∀ (k m : Nat) (s t u : σ), runN body k s t → runN body m t u → runN body (k + m) s u
  | 0, m, s, t, u, r, r' => by
    rw [Nat.zero_add, show s = t from r]
    exact r'
  | k + 1, m, s, t, u, r, r' => by
    obtain ⟨x, e, r⟩ := r
    rw [show k + 1 + m = (k + m) + 1 by omega]
    exact ⟨x, e, runN_tr k m x t u r r'⟩
