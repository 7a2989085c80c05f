/-! arcs -/
theorem sN_bd {f : Int → Nat} {lo : Int} {b : Nat} (hf : ∀ x, f x ≤ b) : ∀ n : Nat, sN f lo n ≤ b * n
  | 0 => Nat.zero_le _
  | n + 1 => by
    have := sN_bd (lo := lo) hf n
    have := hf (lo + n)
    show sN f lo n + f (lo + n) ≤ b * (n + 1)
    rw [Nat.mul_succ]
    omega
theorem sI_bd {f : Int → Nat} {lo hi : Int} {b : Nat} (hf : ∀ x, f x ≤ b) (hN : hi + 1 - lo ≤ 1000) : sI f lo hi ≤ b * 1000 :=
  Nat.le_trans (sN_bd hf _) (Nat.mul_le_mul_left _ (by omega))
theorem acc2 {body : Int × Int → Option ((Int × Int) ⊕ Int)} {f : Int → Nat} {lo hi : Int} {A b : Nat} (hlo : lo ≤ hi + 1) (hN : hi + 1 - lo < 1000) (hf : ∀ x, f x ≤ b)
    (step : ∀ (acc : Nat) (x : Int), lo ≤ x → x ≤ hi → acc ≤ A + b * 1000 → body ((acc : Int), x) = some (.inl (((acc + f x : Nat) : Int), x + 1)))
    (exit : ∀ acc : Nat, body ((acc : Int), hi + 1) = some (.inr (acc : Int))) : loopN body LN ((A : Int), lo) = some ((A + sI f lo hi : Nat) : Int) := by
  obtain ⟨r, e, p⟩ := loop_ok (body := body) (fun s => lo ≤ s.2 ∧ s.2 ≤ hi + 1 ∧ s.1 = ((A + sI f lo (s.2 - 1) : Nat) : Int)) (fun s => (hi + 1 - s.2).toNat) (fun r => r = ((A + sI f lo hi : Nat) : Int)) (by
    rintro ⟨a, x⟩ ⟨x0, x1, ha⟩
    simp only at x0 x1 ha
    subst ha
    by_cases hx : x ≤ hi
    · left
      have bd := sI_bd (f := f) (lo := lo) (hi := x - 1) hf (by omega)
      refine ⟨_, step _ x x0 hx (by omega), ⟨by simp only; omega, by simp only; omega, ?_⟩, by simp only; omega⟩
      simp only
      rw [show x + 1 - 1 = x by omega, sI_1 (f := f) x0, Nat.add_assoc]
    · right
      have hx' : x = hi + 1 := by omega
      subst hx'
      refine ⟨_, exit _, ?_⟩
      rw [show hi + 1 - 1 = hi by omega]) LN ((A : Int), lo) ⟨Int.le_refl _, hlo, by
      simp only
      rw [sI_none (by omega)]
      rfl⟩ (by unfold LN; simp only; omega)
  rw [e, p]
section
variable (hd inn : Int → Int)
def arN (s : Int) : Nat := if 1 ≤ s ∧ hd s ≠ -1 ∧ hd (inn s) ≠ -1 then 1 else 0
def aLo (s : Int) : Int := min (hd s) (hd (inn s))
def aHi (s : Int) : Int := max (hd s) (hd (inn s))
def axN (a b : Int) : Nat := if (aLo hd inn a < aLo hd inn b ∧ aLo hd inn b < aHi hd inn a ∧ aHi hd inn a < aHi hd inn b) ∨ (aLo hd inn b < aLo hd inn a ∧ aLo hd inn a < aHi hd inn b ∧ aHi hd inn b < aHi hd inn a) then 1 else 0
def apN (a b : Int) : Nat := if a < b then arN hd inn a * (arN hd inn b * axN hd inn a b) else 0
def alN (s : Int) : Int := if arN hd inn s = 1 then aHi hd inn s - aLo hd inn s else 0
end
def amxN (f : Int → Int) (lo : Int) : Nat → Int
  | 0 => 0
  | k + 1 => max (amxN f lo k) (f (lo + k))
section
variable {hd inn : Int → Int}
theorem arN_01 (s : Int) : arN hd inn s = 0 ∨ arN hd inn s = 1 := by unfold arN; split <;> omega
theorem axN_01 (a b : Int) : axN hd inn a b = 0 ∨ axN hd inn a b = 1 := by unfold axN; split <;> omega
theorem axN_sym (a b : Int) : axN hd inn a b = axN hd inn b a := by
  unfold axN
  by_cases h : (aLo hd inn a < aLo hd inn b ∧ aLo hd inn b < aHi hd inn a ∧ aHi hd inn a < aHi hd inn b) ∨ (aLo hd inn b < aLo hd inn a ∧ aLo hd inn a < aHi hd inn b ∧ aHi hd inn b < aHi hd inn a)
  · rw [if_pos h, if_pos (by omega)]
  · rw [if_neg h, if_neg (by omega)]
theorem apN_le (a b : Int) : arN hd inn a * (arN hd inn b * axN hd inn a b) ≤ 1 := by
  rcases arN_01 (hd := hd) (inn := inn) a with z | z <;> rcases arN_01 (hd := hd) (inn := inn) b with y | y <;> rcases axN_01 (hd := hd) (inn := inn) a b with x | x <;> rw [z, y, x] <;> decide
theorem apN_le' (a b : Int) : apN hd inn a b ≤ 1 := by
  unfold apN
  split
  · exact apN_le a b
  · omega
end
/-- the arcs' numbers as both hold them -/
def ArX (h : Hp) (w L : Int) (hd inn : Int → Int) : Prop := WyO w ∧ WyS h w ∧ h w 1 = L ∧ (1 ≤ L ∧ L ≤ 48) ∧ ∀ s, 0 ≤ s → s < L → h (w + 4) s = hd s ∧ h (w + 2) s = inn s ∧ (-1 ≤ hd s ∧ hd s < 1000) ∧ (1 ≤ s → 0 ≤ inn s ∧ inn s < L)
section
variable {h : Hp} {w L : Int} {hd inn : Int → Int}
theorem hasArc_ok (A : ArX h w L hd inn) {s : Int} (s0 : 0 ≤ s) (s1 : s < L) : Wy_hasArc w s h = some (arN hd inn s : Int) := by
  obtain ⟨O, S, e1, ⟨l0, l1⟩, f⟩ := A
  obtain ⟨k0, -, k2, -, k4, -⟩ := WyO_k O
  unfold Wy_hasArc Wy_hasArc_j33 arN
  by_cases hs : s ≤ 0
  · rw [if_pos hs, if_neg (by omega)]; rfl
  · have fs := f s s0 s1
    have ii := fs.2.2.2 (by omega)
    have fi := f (inn s) ii.1 ii.2
    rw [if_neg hs, if_pos k0, S.2.2.2.1, if_pos ⟨k4.1, s0, by rw [k4.2]; omega⟩, fs.1, S.2.1, if_pos (show kK (w + 2) = 21 ∧ (0 : Int) ≤ s ∧ s < kL (w + 2) from ⟨k2.1, s0, by rw [k2.2]; omega⟩), fs.2.1, if_pos (show kK (w + 4) = 21 ∧ (0 : Int) ≤ inn s ∧ inn s < kL (w + 4) from ⟨k4.1, ii.1, by rw [k4.2]; omega⟩), fi.1]
    by_cases h1 : hd s = -1
    · rw [if_pos h1, if_neg (by omega)]; rfl
    · rw [if_neg h1]
      by_cases h2 : hd (inn s) = -1
      · rw [if_pos h2, if_neg (by omega)]; rfl
      · rw [if_neg h2, if_pos ⟨by omega, h1, h2⟩]; rfl
theorem arcCount_ok (A : ArX h w L hd inn) : Wy_arcCount w h = some ((sI (arN hd inn) 1 (L - 1) : Nat) : Int) := by
  have A' := A
  obtain ⟨O, S, e1, ⟨l0, l1⟩, f⟩ := A
  obtain ⟨k0, -⟩ := WyO_k O
  unfold Wy_arcCount
  have := acc2 (body := fun q => Wy_arcCount_L4 w h q.1 q.2) (f := arN hd inn) (lo := 1) (hi := L - 1) (A := 0) (b := 1) (by omega) (by omega) (fun x => by have := arN_01 (hd := hd) (inn := inn) x; omega) (by
    intro acc x x0 x1 ha
    show Wy_arcCount_L4 w h acc x = _
    unfold Wy_arcCount_L4 Wy_arcCount_j26
    rw [if_pos k0, e1, if_neg (by omega), hasArc_ok A' (by omega) (by omega), ob_some, show w32 (x + 1) = x + 1 by unfold w32; omega]
    rcases arN_01 (hd := hd) (inn := inn) x with z | z
    · rw [z, if_pos (by decide), show w32 ((acc : Int) + 0) = acc by unfold w32; omega]; rfl
    · rw [z, if_neg (by decide), show w32 ((acc : Int) + 1) = ((acc + 1 : Nat) : Int) by unfold w32; omega]) (by
    intro acc
    show Wy_arcCount_L4 w h acc (L - 1 + 1) = _
    unfold Wy_arcCount_L4
    rw [if_pos k0, e1, if_pos (by omega)])
  rw [show (((0 : Nat)) : Int) = 0 from rfl] at this
  rw [this, ob_some, Nat.zero_add]
theorem longestArc_ok (A : ArX h w L hd inn) : Wy_longestArc w h = some (amxN (alN hd inn) 1 (L - 1).toNat) := by
  have A' := A
  obtain ⟨O, S, e1, ⟨l0, l1⟩, f⟩ := A
  obtain ⟨k0, -, k2, -, k4, -⟩ := WyO_k O
  unfold Wy_longestArc
  obtain ⟨r, e, p⟩ := loop_ok (body := fun q => Wy_longestArc_L4 w h q.1 q.2) (fun q => 1 ≤ q.2 ∧ q.2 ≤ L ∧ q.1 = amxN (alN hd inn) 1 (q.2 - 1).toNat) (fun q => (L - q.2).toNat) (fun r => r = amxN (alN hd inn) 1 (L - 1).toNat) (by
    rintro ⟨a, x⟩ ⟨x0, x1, ha⟩
    simp only at x0 x1 ha
    subst ha
    show (∃ s', Wy_longestArc_L4 w h _ x = _ ∧ _) ∨ (∃ r, Wy_longestArc_L4 w h _ x = _ ∧ _)
    unfold Wy_longestArc_L4
    by_cases hx : L ≤ x
    · right
      have : x = L := by omega
      subst this
      rw [if_pos k0, e1, if_pos (Int.le_refl _)]
      exact ⟨_, rfl, rfl⟩
    · left
      have fs := f x (by omega) (by omega)
      have ii := fs.2.2.2 (by omega)
      have fi := f (inn x) ii.1 ii.2
      have em : amxN (alN hd inn) 1 (x + 1 - 1).toNat = max (amxN (alN hd inn) 1 (x - 1).toNat) (alN hd inn x) := by
        obtain ⟨m, hm⟩ : ∃ m : Nat, (x + 1 - 1).toNat = m + 1 := ⟨(x - 1).toNat, by omega⟩
        rw [hm, show (x - 1).toNat = m by omega]
        show max _ (alN hd inn (1 + (m : Int))) = _
        rw [show (1 : Int) + (m : Int) = x by omega]
      have mn : ∀ k : Nat, 0 ≤ amxN (alN hd inn) 1 k := by
        intro k
        induction k with
        | zero => exact Int.le_refl _
        | succ k ih => show 0 ≤ max (amxN (alN hd inn) 1 k) _; omega
      rw [if_pos k0, e1, if_neg hx, hasArc_ok A' (by omega) (by omega), ob_some]
      unfold Wy_longestArc_j46
      rw [show w32 (x + 1) = x + 1 by unfold w32; omega, S.2.2.2.1, if_pos (show kK (w + 4) = 21 ∧ (0 : Int) ≤ x ∧ x < kL (w + 4) from ⟨k4.1, by omega, by rw [k4.2]; omega⟩), S.2.1, if_pos (show kK (w + 2) = 21 ∧ (0 : Int) ≤ x ∧ x < kL (w + 2) from ⟨k2.1, by omega, by rw [k2.2]; omega⟩), fs.2.1, if_pos (show kK (w + 4) = 21 ∧ (0 : Int) ≤ inn x ∧ inn x < kL (w + 4) from ⟨k4.1, ii.1, by rw [k4.2]; omega⟩), fs.1, fi.1]
      rcases arN_01 (hd := hd) (inn := inn) x with z | z
      · rw [z, if_pos (by decide)]
        refine ⟨_, rfl, ⟨by simp only; omega, by simp only; omega, ?_⟩, by simp only; omega⟩
        simp only
        have lz : alN hd inn x = 0 := by unfold alN; rw [if_neg (by omega)]
        rw [em, lz]
        have := mn (x - 1).toNat
        omega
      · rw [z, if_neg (by decide)]
        refine ⟨_, rfl, ⟨by simp only; omega, by simp only; omega, ?_⟩, by simp only; omega⟩
        simp only
        have lz : alN hd inn x = aHi hd inn x - aLo hd inn x := by unfold alN; rw [if_pos z]
        have ab : i_abs (w32 (hd x - hd (inn x))) = aHi hd inn x - aLo hd inn x := by
          have h1 := fs.2.2.1
          have h2 := fi.2.2.1
          rw [show w32 (hd x - hd (inn x)) = hd x - hd (inn x) by unfold w32; omega]
          unfold aHi aLo i_abs
          split
          · omega
          · unfold w32
            omega
        rw [em, lz, ab]) LN (0, 1) ⟨Int.le_refl _, l0, rfl⟩ (by unfold LN; simp only; omega)
  rw [e, ob_some, p]
theorem wcross_ok (A : ArX h w L hd inn) {a b : Int} (a0 : 1 ≤ a) (a1 : a < L) (b0 : 1 ≤ b) (b1 : b < L) : Wy_cross w a b h = some (axN hd inn a b : Int) := by
  obtain ⟨O, S, e1, ⟨l0, l1⟩, f⟩ := A
  obtain ⟨k0, -, k2, -, k4, -⟩ := WyO_k O
  have fa := f a (by omega) a1
  have ia := fa.2.2.2 a0
  have ga := f (inn a) ia.1 ia.2
  have fb := f b (by omega) b1
  have ib := fb.2.2.2 b0
  have gb := f (inn b) ib.1 ib.2
  unfold Wy_cross
  rw [if_pos k0, S.2.2.2.1, S.2.1, if_pos (show kK (w + 4) = 21 ∧ (0 : Int) ≤ a ∧ a < kL (w + 4) from ⟨k4.1, by omega, by rw [k4.2]; omega⟩), if_pos (show kK (w + 2) = 21 ∧ (0 : Int) ≤ a ∧ a < kL (w + 2) from ⟨k2.1, by omega, by rw [k2.2]; omega⟩), fa.2.1, if_pos (show kK (w + 4) = 21 ∧ (0 : Int) ≤ inn a ∧ inn a < kL (w + 4) from ⟨k4.1, ia.1, by rw [k4.2]; omega⟩), if_pos (show kK (w + 4) = 21 ∧ (0 : Int) ≤ b ∧ b < kL (w + 4) from ⟨k4.1, by omega, by rw [k4.2]; omega⟩), if_pos (show kK (w + 2) = 21 ∧ (0 : Int) ≤ b ∧ b < kL (w + 2) from ⟨k2.1, by omega, by rw [k2.2]; omega⟩), fb.2.1, if_pos (show kK (w + 4) = 21 ∧ (0 : Int) ≤ inn b ∧ inn b < kL (w + 4) from ⟨k4.1, ib.1, by rw [k4.2]; omega⟩), fa.1, ga.1, fb.1, gb.1]
  have key : ∀ p q r s : Int, p ≤ q → r ≤ s → (if r ≤ p then Wy_cross_j107 p q r s h else if q ≤ r then Wy_cross_j107 p q r s h else if q < s then some 1 else Wy_cross_j107 p q r s h) = some ((if (p < r ∧ r < q ∧ q < s) ∨ (r < p ∧ p < s ∧ s < q) then 1 else 0 : Nat) : Int) := by
    intro p q r s hpq hrs
    have j : Wy_cross_j107 p q r s h = some ((if r < p ∧ p < s ∧ s < q then 1 else 0 : Nat) : Int) := by
      unfold Wy_cross_j107 Wy_cross_j130
      by_cases c1 : p ≤ r
      · rw [if_pos c1, if_neg (by omega)]; rfl
      rw [if_neg c1]
      by_cases c2 : s ≤ p
      · rw [if_pos c2, if_neg (by omega)]; rfl
      rw [if_neg c2]
      by_cases c3 : q ≤ s
      · rw [if_pos c3, if_neg (by omega)]; rfl
      rw [if_neg c3, if_pos (by omega)]; rfl
    rw [j]
    by_cases c1 : r ≤ p
    · rw [if_pos c1]
      by_cases c : r < p ∧ p < s ∧ s < q
      · rw [if_pos c, if_pos (Or.inr c)]
      · rw [if_neg c, if_neg (by omega)]
    rw [if_neg c1]
    by_cases c2 : q ≤ r
    · rw [if_pos c2]
      by_cases c : r < p ∧ p < s ∧ s < q
      · rw [if_pos c, if_pos (Or.inr c)]
      · rw [if_neg c, if_neg (by omega)]
    rw [if_neg c2]
    by_cases c3 : q < s
    · rw [if_pos c3, if_pos (by omega)]; rfl
    · rw [if_neg c3]
      by_cases c : r < p ∧ p < s ∧ s < q
      · rw [if_pos c, if_pos (Or.inr c)]
      · rw [if_neg c, if_neg (by omega)]
  have := key (aLo hd inn a) (aHi hd inn a) (aLo hd inn b) (aHi hd inn b) (by unfold aLo aHi; omega) (by unfold aLo aHi; omega)
  unfold aLo aHi at this
  rw [this]
  rfl
theorem crossings_ok (A : ArX h w L hd inn) : Wy_crossings w h = some ((sI (fun a => sI (fun b => apN hd inn a b) 1 (L - 1)) 1 (L - 1) : Nat) : Int) := by
  have A' := A
  obtain ⟨O, S, e1, ⟨l0, l1⟩, f⟩ := A
  obtain ⟨k0, -⟩ := WyO_k O
  unfold Wy_crossings
  have := acc2 (body := fun q => Wy_crossings_L4 w h q.1 q.2) (f := fun a => sI (fun b => apN hd inn a b) 1 (L - 1)) (lo := 1) (hi := L - 1) (A := 0) (b := 1000) (by omega) (by omega) (fun x => by
    have := sI_bd (f := fun b => apN hd inn x b) (lo := 1) (hi := L - 1) (b := 1) (fun y => apN_le' x y) (by omega)
    omega) (by
    intro acc x x0 x1 ha
    have inner := acc2 (body := fun q => Wy_crossings_L16 w x h q.1 q.2) (f := fun b => arN hd inn x * (arN hd inn b * axN hd inn x b)) (lo := x + 1) (hi := L - 1) (A := acc) (b := 1) (by omega) (by omega) (fun y => apN_le x y) (by
      intro ac y y0 y1 hb
      show Wy_crossings_L16 w x h ac y = _
      unfold Wy_crossings_L16 Wy_crossings_j54 Wy_crossings_j55
      rw [if_pos k0, e1, if_neg (by omega), hasArc_ok A' (by omega) (by omega), ob_some, hasArc_ok A' (by omega) (by omega), ob_some, wcross_ok A' (by omega) (by omega) (by omega) (by omega), ob_some, show w32 (y + 1) = y + 1 by unfold w32; omega, show w32 ((ac : Int) + 0) = ac by unfold w32; omega, show w32 ((ac : Int) + 1) = ac + 1 by unfold w32; omega]
      rcases arN_01 (hd := hd) (inn := inn) x with z | z
      · rw [z, if_pos (by decide), Nat.zero_mul]; rfl
      · rw [z, if_neg (by decide)]
        rcases arN_01 (hd := hd) (inn := inn) y with v | v
        · rw [v, if_pos (by decide), Nat.zero_mul]; rfl
        · rw [v, if_neg (by decide)]
          rcases axN_01 (hd := hd) (inn := inn) x y with u | u
          · rw [u, if_pos (by decide)]; rfl
          · rw [u, if_neg (by decide)]; rfl) (by
      intro ac
      show Wy_crossings_L16 w x h ac (L - 1 + 1) = _
      unfold Wy_crossings_L16
      rw [if_pos k0, e1, if_pos (by omega)])
    show Wy_crossings_L4 w h acc x = _
    unfold Wy_crossings_L4
    rw [if_pos k0, e1, if_neg (by omega), show w32 (x + 1) = x + 1 by unfold w32; omega, inner, ob_some]
    have es : sI (fun b => apN hd inn x b) 1 (L - 1) = sI (fun b => arN hd inn x * (arN hd inn b * axN hd inn x b)) (x + 1) (L - 1) := by
      rw [sI_sub (f := fun b => apN hd inn x b) (a := 1) (b := L - 1) (c := x + 1) (d := L - 1) (by omega) (Int.le_refl _) (by omega) (fun y y0 y1 hy => by show apN hd inn x y = 0; unfold apN; rw [if_neg (by omega)])]
      exact sI_congr (fun y y0 y1 => by show apN hd inn x y = _; unfold apN; rw [if_pos (by omega)])
    rw [es]) (by
    intro acc
    show Wy_crossings_L4 w h acc (L - 1 + 1) = _
    unfold Wy_crossings_L4
    rw [if_pos k0, e1, if_pos (by omega)])
  rw [show (((0 : Nat)) : Int) = 0 from rfl] at this
  rw [this, ob_some, Nat.zero_add]
end
