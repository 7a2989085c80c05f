/-! test: how the tape is read -/
theorem andFF_tab : ∀ x : Fin 256, i_and (((x.val : Nat) : Int) - 128) 255 = (((x.val : Nat) : Int) - 128) % 256 := by decide +kernel
theorem andFF {v : Int} (h0 : -128 ≤ v) (h1 : v < 128) : i_and v 255 = v % 256 := by
  have := andFF_tab ⟨(v + 128).toNat, by omega⟩
  simp only at this
  rw [show (((v + 128).toNat : Nat) : Int) - 128 = v by omega] at this
  exact this
section
variable (tl : Int) (tp : Int → Int)
def tpC (p : Int) : Int := if 0 ≤ p ∧ p < tl then tp p % 256 else -1
def blN : Nat → Int → Int
  | 0, p => p
  | k + 1, p => if tpC tl tp p = 32 ∨ tpC tl tp p = 10 then blN k (p + 1) else p
def blA (p : Int) : Int := blN tl tp (tl - p).toNat p
def isD (c : Int) : Bool := decide (48 ≤ c ∧ c ≤ 57)
def nvN (cap : Int) : Nat → Int → Int → Int × Int
  | 0, p, a => (p, a)
  | k + 1, p, a => if isD (tpC tl tp p) then nvN cap k (p + 1) (min cap (10 * a + tpC tl tp p - 48)) else (p, a)
def nvA (cap p : Int) : Int × Int := nvN tl tp cap (tl - p).toNat p 0
end
section
variable {tl : Int} {tp : Int → Int}
theorem tpC_out {p : Int} (h : tl ≤ p) : tpC tl tp p = -1 := by unfold tpC; rw [if_neg (by omega)]
theorem tpC_in {p : Int} : -1 ≤ tpC tl tp p ∧ tpC tl tp p < 256 := by
  unfold tpC
  split
  · omega
  · omega
theorem blA_eq {p : Int} (h0 : p < tl) : blA tl tp p = if tpC tl tp p = 32 ∨ tpC tl tp p = 10 then blA tl tp (p + 1) else p := by
  unfold blA
  obtain ⟨k, hk⟩ : ∃ k : Nat, (tl - p).toNat = k + 1 := ⟨(tl - p - 1).toNat, by omega⟩
  rw [hk, show (tl - (p + 1)).toNat = k by omega]
  rfl
theorem blA_out {p : Int} (h : tl ≤ p) : blA tl tp p = p := by
  unfold blA
  rw [show (tl - p).toNat = 0 by omega]
  rfl
theorem blN_le : ∀ (k : Nat) (p : Int), p ≤ blN tl tp k p ∧ blN tl tp k p ≤ p + k
  | 0, p => ⟨Int.le_refl _, by show p ≤ p + ((0 : Nat) : Int); omega⟩
  | k + 1, p => by
    show p ≤ (if tpC tl tp p = 32 ∨ tpC tl tp p = 10 then blN tl tp k (p + 1) else p) ∧ (if tpC tl tp p = 32 ∨ tpC tl tp p = 10 then blN tl tp k (p + 1) else p) ≤ p + ((k + 1 : Nat) : Int)
    have := blN_le k (p + 1)
    split <;> omega
theorem blA_le (p : Int) : p ≤ blA tl tp p ∧ (p ≤ tl → blA tl tp p ≤ tl) ∧ (tl < p → blA tl tp p = p) := by
  have := blN_le (tl := tl) (tp := tp) (tl - p).toNat p
  refine ⟨this.1, fun h => ?_, fun h => blA_out (by omega)⟩
  have := this.2
  unfold blA
  omega
theorem nvN_le (cap : Int) : ∀ (k : Nat) (p a : Int), p ≤ (nvN tl tp cap k p a).1 ∧ (nvN tl tp cap k p a).1 ≤ p + k
  | 0, p, a => ⟨Int.le_refl _, by show p ≤ p + ((0 : Nat) : Int); omega⟩
  | k + 1, p, a => by
    have := nvN_le cap k (p + 1) (min cap (10 * a + tpC tl tp p - 48))
    show p ≤ (if isD (tpC tl tp p) then nvN tl tp cap k (p + 1) (min cap (10 * a + tpC tl tp p - 48)) else (p, a)).1 ∧ (if isD (tpC tl tp p) then nvN tl tp cap k (p + 1) (min cap (10 * a + tpC tl tp p - 48)) else (p, a)).1 ≤ p + ((k + 1 : Nat) : Int)
    split
    · omega
    · show p ≤ p ∧ p ≤ _; omega
/-- values with two caps -/
theorem nvN_two : ∀ (k : Nat) (p a b : Int), (a = b ∨ (99999 ≤ a ∧ 99999 ≤ b)) → 0 ≤ a → 0 ≤ b → a ≤ 99999 → b ≤ 1000000 → (nvN tl tp 99999 k p a).1 = (nvN tl tp 1000000 k p b).1 ∧ ((nvN tl tp 99999 k p a).2 = (nvN tl tp 1000000 k p b).2 ∨ (99999 ≤ (nvN tl tp 99999 k p a).2 ∧ 99999 ≤ (nvN tl tp 1000000 k p b).2)) ∧ 0 ≤ (nvN tl tp 99999 k p a).2 ∧ (nvN tl tp 99999 k p a).2 ≤ 99999 ∧ 0 ≤ (nvN tl tp 1000000 k p b).2 ∧ (nvN tl tp 1000000 k p b).2 ≤ 1000000
  | 0, p, a, b, h, a0, b0, a1, b1 => ⟨rfl, h, a0, a1, b0, b1⟩
  | k + 1, p, a, b, h, a0, b0, a1, b1 => by
    have e1 : nvN tl tp 99999 (k + 1) p a = if isD (tpC tl tp p) then nvN tl tp 99999 k (p + 1) (min 99999 (10 * a + tpC tl tp p - 48)) else (p, a) := rfl
    have e2 : nvN tl tp 1000000 (k + 1) p b = if isD (tpC tl tp p) then nvN tl tp 1000000 k (p + 1) (min 1000000 (10 * b + tpC tl tp p - 48)) else (p, b) := rfl
    rw [e1, e2]
    by_cases hd : isD (tpC tl tp p) = true
    · rw [if_pos hd, if_pos hd]
      have hc : 48 ≤ tpC tl tp p ∧ tpC tl tp p ≤ 57 := of_decide_eq_true hd
      exact nvN_two k (p + 1) _ _ (by omega) (by omega) (by omega) (by omega) (by omega)
    · rw [if_neg hd, if_neg hd]
      exact ⟨rfl, h, a0, a1, b0, b1⟩
end
/-! the class's reader -/
def SrE (h : Hp) (tl : Int) (tp : Int → Int) : Prop := TapX h tl tp ∧ h 1 0 = 2 ∧ h 10 0 = 1 ∧ h 10 5 = 13 ∧ h 10 6 = 14 ∧ h 10 7 = 15
def SrF (h h' : Hp) : Prop := ∀ c s, (c ≠ 10 ∨ (s ≠ 3 ∧ s ≠ 4)) → c ≠ 13 → c ≠ 14 → c ≠ 15 → h' c s = h c s
theorem SrF.rf {h : Hp} : SrF h h := fun _ _ _ _ _ _ => rfl
theorem SrF.tr {a b c : Hp} (x : SrF a b) (y : SrF b c) : SrF a c := fun i s h1 h2 h3 h4 => by rw [y i s h1 h2 h3 h4, x i s h1 h2 h3 h4]
section
variable {h h' : Hp} {tl : Int} {tp : Int → Int}
theorem SrE_f (E : SrE h tl tp) (F : SrF h h') : SrE h' tl tp := by
  obtain ⟨T, e1, e0, e5, e6, e7⟩ := E
  refine ⟨?_, by rw [F 1 0 (Or.inl (by decide)) (by decide) (by decide) (by decide)]; exact e1, by rw [F 10 0 (Or.inr (by decide)) (by decide) (by decide) (by decide)]; exact e0, by rw [F 10 5 (Or.inr (by decide)) (by decide) (by decide) (by decide)]; exact e5, by rw [F 10 6 (Or.inr (by decide)) (by decide) (by decide) (by decide)]; exact e6, by rw [F 10 7 (Or.inr (by decide)) (by decide) (by decide) (by decide)]; exact e7⟩
  unfold TapX at T ⊢
  rw [F 1 1 (Or.inl (by decide)) (by decide) (by decide) (by decide)]
  exact ⟨T.1, T.2.1, T.2.2.1, fun i a b => by rw [F 2 i (Or.inl (by decide)) (by decide) (by decide) (by decide)]; exact T.2.2.2 i a b⟩
theorem sr_at (E : SrE h tl tp) {p : Int} (p0 : 0 ≤ p) : By_at 1 p h = some (tpC tl tp p) := by
  obtain ⟨T, e1, -⟩ := E
  unfold By_at tpC
  rw [if_neg (by omega), if_pos (by decide), T.1]
  by_cases hp : tl ≤ p
  · rw [if_pos hp, if_neg (by omega)]
  · have := T.2.2.2 p p0 (by omega)
    have l2 := T.2.2.1
    rw [if_neg hp, e1, if_pos (by decide), if_pos (by rw [show kL 2 = 400 by decide]; omega), if_pos ⟨by decide, p0, by rw [show kL 2 = 400 by decide]; omega⟩, this.1, andFF this.2.1 this.2.2, if_pos (by omega)]
theorem sr_blanks (E : SrE h tl tp) {p : Int} (p0 : 0 ≤ p) : By_afterBlanks 1 p h = some (blA tl tp p) := by
  obtain ⟨T, e1, -⟩ := E
  have t0 := T.2.1
  have t1 := T.2.2.1
  unfold By_afterBlanks
  obtain ⟨r, e, pr⟩ := loop_ok (body := fun q => By_afterBlanks_L2 1 h q) (fun x => 0 ≤ x ∧ blA tl tp x = blA tl tp p ∧ (x ≤ tl ∨ x = p)) (fun x => (tl - x).toNat) (fun r => r = blA tl tp p) (by
    intro x ⟨x0, xe, xl⟩
    show (∃ s', By_afterBlanks_L2 1 h x = _ ∧ _) ∨ (∃ r, By_afterBlanks_L2 1 h x = _ ∧ _)
    unfold By_afterBlanks_L2 By_afterBlanks_j36
    rw [if_neg (by omega), if_pos (by decide), T.1]
    by_cases hx : tl ≤ x
    · right
      rw [if_pos hx]
      rw [blA_out hx] at xe
      exact ⟨_, rfl, xe⟩
    · have := T.2.2.2 x x0 (by omega)
      have eb := blA_eq (tl := tl) (tp := tp) (p := x) (by omega)
      have ec : tpC tl tp x = tp x % 256 := by unfold tpC; rw [if_pos ⟨x0, by omega⟩]
      rw [ec] at eb
      rw [if_neg hx, e1, if_pos ⟨by decide, x0, by rw [show kL 2 = 400 by decide]; omega⟩, this.1, show w32 (x + 1) = x + 1 by unfold w32; omega]
      by_cases h32 : tp x = 32
      · left
        rw [if_pos h32]
        rw [if_pos (by omega)] at eb
        exact ⟨_, rfl, ⟨by omega, by rw [← eb]; exact xe, Or.inl (by omega)⟩, by omega⟩
      · rw [if_neg h32]
        by_cases h10 : tp x = 10
        · left
          rw [if_pos h10]
          rw [if_pos (by omega)] at eb
          exact ⟨_, rfl, ⟨by omega, by rw [← eb]; exact xe, Or.inl (by omega)⟩, by omega⟩
        · right
          rw [if_neg h10]
          rw [if_neg (by omega)] at eb
          exact ⟨_, rfl, by rw [← xe]; exact eb.symm⟩) LN p ⟨p0, rfl, Or.inr rfl⟩ (by unfold LN; omega)
  rw [e, ob_some, pr]
theorem isDigit_ok (c : Int) : SR_isDigit c = some (if isD c then 1 else 0) := by
  unfold SR_isDigit SR_isDigit_j16 isD
  by_cases h1 : c < 48
  · rw [if_pos h1, decide_eq_false (by omega)]; rfl
  · rw [if_neg h1]
    by_cases h2 : 57 < c
    · rw [if_pos h2, decide_eq_false (by omega)]; rfl
    · rw [if_neg h2, decide_eq_true (by omega)]; rfl
/-- a number that is read: where it ends, what it is -/
theorem readNumber_ok (E : SrE h tl tp) {p : Int} (hp : h 10 3 = p) (p0 : 0 ≤ p) (p1 : p ≤ 402) : ∃ h', SR_readNumber 10 h = some (if isD (tpC tl tp p) then (nvA tl tp 1000000 p).2 else -1, h') ∧ SrF h h' ∧ h' 10 3 = blA tl tp (nvA tl tp 1000000 p).1 ∧ h' 10 4 = h 10 4 ∧ h' 13 = h 13 ∧ h' 14 = h 14 ∧ h' 15 = h 15 := by
  have T := E.1
  have t0 := T.2.1
  have t1 := T.2.2.1
  have k10 : kK 10 = 6 := by decide
  have e0 : h 10 0 = 1 := E.2.2.1
  have lp : ∀ a0 : Int, (isD (tpC tl tp p) = true → a0 = 0) → ∃ h1, loopN (fun q => SR_readNumber_L23 10 q.1 q.2) LN (a0, h) = some (if isD (tpC tl tp p) then (nvA tl tp 1000000 p).2 else a0, h1) ∧ (∀ c s, (c ≠ 10 ∨ s ≠ 3) → h1 c s = h c s) ∧ h1 10 3 = (nvA tl tp 1000000 p).1 := by
    intro a0 ha
    obtain ⟨r, e, q1, q2, q3⟩ := loop_ok (body := fun q => SR_readNumber_L23 10 q.1 q.2) (fun q => (∀ c s, (c ≠ 10 ∨ s ≠ 3) → q.2 c s = h c s) ∧ p ≤ q.2 10 3 ∧ (q.2 10 3 ≤ tl ∨ q.2 10 3 = p) ∧ ((q.2 10 3 = p ∧ q.1 = a0) ∨ (isD (tpC tl tp p) = true ∧ 0 ≤ q.1 ∧ q.1 ≤ 1000000 ∧ nvN tl tp 1000000 (tl - q.2 10 3).toNat (q.2 10 3) q.1 = nvA tl tp 1000000 p))) (fun q => (tl - q.2 10 3).toNat) (fun r => (∀ c s, (c ≠ 10 ∨ s ≠ 3) → r.2 c s = h c s) ∧ r.2 10 3 = (nvA tl tp 1000000 p).1 ∧ r.1 = if isD (tpC tl tp p) then (nvA tl tp 1000000 p).2 else a0) (by
      rintro ⟨a, g⟩ ⟨fr, x0, xl, st⟩
      simp only at fr x0 xl st
      show (∃ s', SR_readNumber_L23 10 a g = _ ∧ _) ∨ (∃ r, SR_readNumber_L23 10 a g = _ ∧ _)
      have Eg : SrE g tl tp := SrE_f E (fun c s h1 _ _ _ => fr c s (h1.elim Or.inl (fun z => Or.inr z.1)))
      generalize hx : g 10 3 = x at x0 xl st
      unfold SR_readNumber_L23
      rw [if_pos k10, Eg.2.2.1, if_pos (by decide), Eg.1.1, hx]
      have done : (nvN tl tp 1000000 (tl - x).toNat x a = (x, a)) → ¬ (isD (tpC tl tp x) = true ∧ x < tl) → (∀ c s, (c ≠ 10 ∨ s ≠ 3) → g c s = h c s) ∧ g 10 3 = (nvA tl tp 1000000 p).1 ∧ a = if isD (tpC tl tp p) then (nvA tl tp 1000000 p).2 else a0 := by
        intro hn hnd
        refine ⟨fr, ?_, ?_⟩
        · rcases st with ⟨s1, s2⟩ | ⟨s1, s2, s3, s4⟩
          · rw [hx]
            subst s1
            have hd : ¬ isD (tpC tl tp x) = true := by
              by_cases hl : x < tl
              · exact fun z => hnd ⟨z, hl⟩
              · rw [tpC_out (by omega)]; decide
            unfold nvA
            cases hk : (tl - x).toNat with
            | zero => rfl
            | succ k =>
              show x = (if isD (tpC tl tp x) then nvN tl tp 1000000 k (x + 1) (min 1000000 (10 * 0 + tpC tl tp x - 48)) else (x, 0)).1
              rw [if_neg hd]
          · rw [← s4, hn, hx]
        · rcases st with ⟨s1, s2⟩ | ⟨s1, s2, s3, s4⟩
          · subst s1
            have hd : ¬ isD (tpC tl tp x) = true := by
              by_cases hl : x < tl
              · exact fun z => hnd ⟨z, hl⟩
              · rw [tpC_out (by omega)]; decide
            rw [if_neg hd, s2]
          · rw [if_pos s1, ← s4, hn]
      by_cases hl : tl ≤ x
      · right
        rw [if_pos hl]
        exact ⟨_, rfl, done (by rw [show (tl - x).toNat = 0 by omega]; rfl) (fun z => by omega)⟩
      · rw [if_neg hl, sr_at Eg (by omega), ob_some, isDigit_ok, ob_some]
        obtain ⟨k, hk⟩ : ∃ k : Nat, (tl - x).toNat = k + 1 := ⟨(tl - x - 1).toNat, by omega⟩
        by_cases hd : isD (tpC tl tp x) = true
        · left
          have hc : 48 ≤ tpC tl tp x ∧ tpC tl tp x ≤ 57 := of_decide_eq_true hd
          have isp : isD (tpC tl tp p) = true ∧ 0 ≤ a ∧ a ≤ 1000000 ∧ nvN tl tp 1000000 (tl - x).toNat x a = nvA tl tp 1000000 p := by
            rcases st with ⟨s1, s2⟩ | s
            · subst s1
              have := ha hd
              subst s2
              rw [this]
              exact ⟨hd, by decide, by decide, rfl⟩
            · exact s
          rw [if_pos hd, if_neg (by decide), ob_some, show w32 (x + 1) = x + 1 by unfold w32; omega]
          have ev : min 1000000 (w32 (w32 (w32 (10 * a) + tpC tl tp x) - 48)) = min 1000000 (10 * a + tpC tl tp x - 48) := by
            have i1 := isp.2.1
            have i2 := isp.2.2.1
            have a1 : w32 (10 * a) = 10 * a := by unfold w32; omega
            rw [a1]
            have a2 : w32 (10 * a + tpC tl tp x) = 10 * a + tpC tl tp x := by unfold w32; omega
            rw [a2]
            have a3 : w32 (10 * a + tpC tl tp x - 48) = 10 * a + tpC tl tp x - 48 := by unfold w32; omega
            rw [a3]
          rw [ev]
          refine ⟨_, rfl, ⟨?_, ?_, ?_, ?_⟩, ?_⟩
          · intro c s z
            simp only
            have : hput g 10 3 (x + 1) c s = g c s := by
              rcases z with z | z
              · exact hput_ne1 z
              · exact hput_ne2 z
            rw [this]
            exact fr c s z
          · simp only
            rw [hput_eq]; omega
          · simp only
            rw [hput_eq]; left; omega
          · simp only
            rw [hput_eq]
            right
            refine ⟨isp.1, by omega, by omega, ?_⟩
            rw [← isp.2.2.2, hk, show (tl - (x + 1)).toNat = k by omega]
            show _ = (if isD (tpC tl tp x) then nvN tl tp 1000000 k (x + 1) (min 1000000 (10 * a + tpC tl tp x - 48)) else (x, a))
            rw [if_pos hd]
          · simp only
            rw [hput_eq, hx]; omega
        · right
          rw [if_neg hd, if_pos rfl]
          refine ⟨_, rfl, done ?_ (fun z => hd z.1)⟩
          rw [hk]
          show (if isD (tpC tl tp x) then _ else (x, a)) = _
          rw [if_neg hd]) LN (a0, h) ⟨fun _ _ _ => rfl, by simp only; rw [hp]; exact Int.le_refl _, by simp only; exact Or.inr hp, Or.inl ⟨hp, rfl⟩⟩ (by unfold LN; simp only; rw [hp]; omega)
    refine ⟨r.2, ?_, q1, q2⟩
    rw [e]
    congr 1
    exact Prod.ext q3 rfl
  unfold SR_readNumber
  rw [if_pos k10, e0, if_pos (by decide), hp, sr_at E p0, ob_some, isDigit_ok, ob_some]
  obtain ⟨h1, x1, f1, e1⟩ := lp (if (if isD (tpC tl tp p) then (1 : Int) else 0) = 0 then -1 else 0) (by intro z; rw [if_pos z]; rfl)
  have E1 : SrE h1 tl tp := SrE_f E (fun c s a _ _ _ => f1 c s (a.elim Or.inl (fun z => Or.inr z.1)))
  have nl := nvN_le (tl := tl) (tp := tp) 1000000 (tl - p).toNat p 0
  unfold SR_readNumber_j22
  rw [x1, ob_some]
  show ∃ h', (if kK 10 = 6 then if kK (h1 10 0) = 0 then ob (By_afterBlanks (h1 10 0) (h1 10 3) h1) (fun r101 => some (_, hput h1 10 3 r101)) else none else none) = _ ∧ _
  rw [if_pos k10, E1.2.2.1, if_pos (by decide), e1, sr_blanks E1 (by have := nl.1; unfold nvA; omega), ob_some]
  refine ⟨hput h1 10 3 (blA tl tp (nvA tl tp 1000000 p).1), ?_, ?_, ?_, ?_, ?_, ?_, ?_⟩
  · congr 2
    by_cases hd : isD (tpC tl tp p) = true
    · rw [if_pos hd, if_pos hd]
    · rw [if_neg hd, if_neg hd, if_neg hd]; rfl
  · intro c s z1 z2 z3 z4
    have : hput h1 10 3 (blA tl tp (nvA tl tp 1000000 p).1) c s = h1 c s := by
      rcases z1 with z | z
      · exact hput_ne1 z
      · exact hput_ne2 z.1
    rw [this, f1 c s (z1.elim Or.inl (fun z => Or.inr z.1))]
  · rw [hput_eq]
  · rw [hput_ne2 (by decide), f1 10 4 (Or.inr (by decide))]
  · funext s; rw [hput_ne1 (by decide), f1 13 s (Or.inl (by decide))]
  · funext s; rw [hput_ne1 (by decide), f1 14 s (Or.inl (by decide))]
  · funext s; rw [hput_ne1 (by decide), f1 15 s (Or.inl (by decide))]
end
