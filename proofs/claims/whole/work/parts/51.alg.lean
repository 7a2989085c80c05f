/-! the class: how ways are reckoned (counted, summed up, masked), and sums of them -/
abbrev Ag : Type := Int → Int → Int → Int
abbrev aE (A : Ag) (x y : Int) : Int := A 0 x y
abbrev aB (A : Ag) (x y : Int) : Int := A 1 x y
abbrev aP (A : Ag) (t x : Int) : Int := A 2 t x
abbrev aL (A : Ag) (i l : Int) : Int := A 3 i l
abbrev a1 (A : Ag) : Int := A 4 0 0
/-- laws of a reckoning, over its values V -/
def AgL (A : Ag) (V : Int → Prop) : Prop :=
  V 0 ∧ V (a1 A) ∧ (∀ i l, 0 ≤ i → i < 8 → 0 ≤ l → l < 26 → V (aL A i l)) ∧
  (∀ x y, V x → V y → V (aE A x y) ∧ V (aB A x y)) ∧ (∀ t x, 0 ≤ t → t < 8 → V x → V (aP A t x)) ∧
  (∀ x y, V x → V y → aE A x y = aE A y x) ∧ (∀ x y z, V x → V y → V z → aE A (aE A x y) z = aE A x (aE A y z)) ∧
  (∀ x, V x → aE A x 0 = x) ∧ (∀ x, V x → aB A x 0 = 0 ∧ aB A 0 x = 0) ∧ (∀ t, 0 ≤ t → t < 8 → aP A t 0 = 0)
section
variable {A : Ag} {V : Int → Prop}
theorem ag_0 (L : AgL A V) : V 0 := L.1
theorem ag_1 (L : AgL A V) : V (a1 A) := L.2.1
theorem ag_L (L : AgL A V) {i l : Int} (h0 : 0 ≤ i) (h1 : i < 8) (h2 : 0 ≤ l) (h3 : l < 26) : V (aL A i l) := L.2.2.1 i l h0 h1 h2 h3
theorem ag_E (L : AgL A V) {x y : Int} (hx : V x) (hy : V y) : V (aE A x y) := (L.2.2.2.1 x y hx hy).1
theorem ag_B (L : AgL A V) {x y : Int} (hx : V x) (hy : V y) : V (aB A x y) := (L.2.2.2.1 x y hx hy).2
theorem ag_P (L : AgL A V) {t x : Int} (h0 : 0 ≤ t) (h1 : t < 8) (hx : V x) : V (aP A t x) := L.2.2.2.2.1 t x h0 h1 hx
theorem ag_com (L : AgL A V) {x y : Int} (hx : V x) (hy : V y) : aE A x y = aE A y x := L.2.2.2.2.2.1 x y hx hy
theorem ag_ass (L : AgL A V) {x y z : Int} (hx : V x) (hy : V y) (hz : V z) : aE A (aE A x y) z = aE A x (aE A y z) := L.2.2.2.2.2.2.1 x y z hx hy hz
theorem ag_E0 (L : AgL A V) {x : Int} (hx : V x) : aE A x 0 = x := L.2.2.2.2.2.2.2.1 x hx
theorem ag_0E (L : AgL A V) {x : Int} (hx : V x) : aE A 0 x = x := by rw [ag_com L (ag_0 L) hx, ag_E0 L hx]
theorem ag_B0 (L : AgL A V) {x : Int} (hx : V x) : aB A x 0 = 0 := (L.2.2.2.2.2.2.2.2.1 x hx).1
theorem ag_0B (L : AgL A V) {x : Int} (hx : V x) : aB A 0 x = 0 := (L.2.2.2.2.2.2.2.2.1 x hx).2
theorem ag_P0 (L : AgL A V) {t : Int} (h0 : 0 ≤ t) (h1 : t < 8) : aP A t 0 = 0 := L.2.2.2.2.2.2.2.2.2 t h0 h1
end
/-- sums -/
def aN (A : Ag) (f : Int → Int) (lo : Int) : Nat → Int
  | 0 => 0
  | k + 1 => aE A (aN A f lo k) (f (lo + k))
def aI (A : Ag) (f : Int → Int) (lo hi : Int) : Int := aN A f lo (hi + 1 - lo).toNat
section
variable {A : Ag} {V : Int → Prop}
theorem aN_congr {f g : Int → Int} {lo : Int} : ∀ (n : Nat), (∀ k : Nat, k < n → f (lo + k) = g (lo + k)) → aN A f lo n = aN A g lo n
  | 0, _ => rfl
  | n + 1, h => by
    show aE A (aN A f lo n) (f (lo + n)) = aE A (aN A g lo n) (g (lo + n))
    rw [aN_congr n (fun k hk => h k (by omega)), h n (by omega)]
theorem aI_congr {f g : Int → Int} {lo hi : Int} (h : ∀ x, lo ≤ x → x ≤ hi → f x = g x) : aI A f lo hi = aI A g lo hi :=
  aN_congr _ (fun k hk => h _ (by omega) (by omega))
theorem aN_V (L : AgL A V) {f : Int → Int} {lo : Int} : ∀ (n : Nat), (∀ k : Nat, k < n → V (f (lo + k))) → V (aN A f lo n)
  | 0, _ => ag_0 L
  | n + 1, h => ag_E L (aN_V L n (fun k hk => h k (by omega))) (h n (by omega))
theorem aI_V (L : AgL A V) {f : Int → Int} {lo hi : Int} (h : ∀ x, lo ≤ x → x ≤ hi → V (f x)) : V (aI A f lo hi) :=
  aN_V L _ (fun k hk => h _ (by omega) (by omega))
theorem aI_nil {f : Int → Int} {lo hi : Int} (h : hi < lo) : aI A f lo hi = 0 := by
  unfold aI; rw [show (hi + 1 - lo).toNat = 0 by omega]; rfl
theorem aI_succ {f : Int → Int} {lo hi : Int} (h : lo ≤ hi) : aI A f lo hi = aE A (aI A f lo (hi - 1)) (f hi) := by
  unfold aI
  rw [show (hi + 1 - lo).toNat = (hi - 1 + 1 - lo).toNat + 1 by omega]
  show aE A _ (f (lo + ((hi - 1 + 1 - lo).toNat : Nat))) = _
  rw [show lo + ((hi - 1 + 1 - lo).toNat : Int) = hi by omega]
theorem aI_zero (L : AgL A V) {f : Int → Int} {lo hi : Int} (h : ∀ x, lo ≤ x → x ≤ hi → f x = 0) : aI A f lo hi = 0 := by
  have key : ∀ n : Nat, (∀ k : Nat, k < n → f (lo + k) = 0) → aN A f lo n = 0 := by
    intro n
    induction n with
    | zero => intro _; rfl
    | succ n ih =>
      intro hz
      show aE A (aN A f lo n) (f (lo + n)) = 0
      rw [ih (fun k hk => hz k (by omega)), hz n (by omega), ag_E0 L (ag_0 L)]
  exact key _ (fun k hk => h _ (by omega) (by omega))
/-- one more of the terms has come -/
theorem aI_put (L : AgL A V) {f g : Int → Int} {lo hi t : Int} (t0 : lo ≤ t) (t1 : t ≤ hi) (hV : ∀ x, lo ≤ x → x ≤ hi → V (g x)) (hf : ∀ x, lo ≤ x → x ≤ hi → f x = if x = t then 0 else g x) : aI A g lo hi = aE A (aI A f lo hi) (g t) := by
  have key : ∀ n : Nat, (∀ k : Nat, k < n → V (g (lo + k))) → (∀ k : Nat, k < n → f (lo + k) = if lo + (k : Int) = t then 0 else g (lo + k)) → aN A g lo n = if t < lo + n then aE A (aN A f lo n) (g t) else aN A f lo n := by
    intro n
    induction n with
    | zero => intro _ _; rw [if_neg (by omega)]; rfl
    | succ n ih =>
      intro hV hf
      have i1 := ih (fun k hk => hV k (by omega)) (fun k hk => hf k (by omega))
      have vf : V (aN A f lo n) := aN_V L n (fun k hk => by rw [hf k (by omega)]; split; exact ag_0 L; exact hV k (by omega))
      have vn := hV n (by omega)
      have fn := hf n (by omega)
      show aE A (aN A g lo n) (g (lo + n)) = if _ then aE A (aE A (aN A f lo n) (f (lo + n))) (g t) else aE A (aN A f lo n) (f (lo + n))
      by_cases h1 : t < lo + n
      · rw [if_pos (show t < lo + ((n + 1 : Nat) : Int) by omega), i1, if_pos h1]
        rw [fn, if_neg (by omega)]
        have vt : V (g t) := by
          have := hV (t - lo).toNat (by omega)
          rwa [show lo + ((t - lo).toNat : Int) = t by omega] at this
        rw [ag_ass L vf vt vn, ag_com L vt vn, ag_ass L vf vn vt]
      · by_cases h2 : t = lo + n
        · rw [if_pos (show t < lo + ((n + 1 : Nat) : Int) by omega), i1, if_neg h1, fn, if_pos h2.symm, ag_E0 L vf, h2]
        · rw [if_neg (show ¬ t < lo + ((n + 1 : Nat) : Int) by omega), i1, if_neg h1, fn, if_neg (fun h => h2 h.symm)]
  have := key (hi + 1 - lo).toNat (fun k hk => hV _ (by omega) (by omega)) (fun k hk => hf _ (by omega) (by omega))
  rw [if_pos (by omega)] at this
  exact this
end
