/-! grammar: rows that hold a tree that was read -/
def vrT : Dv → Int
  | .var a => (a : Int)
  | _ => 0
/-- how many nodes of a kind (not of kind 0) -/
def ktT (k : Int) : Dv → Nat
  | .zero => if k = 2 then 1 else 0
  | .var _ => if k = 1 then 1 else 0
  | .neg _ => if k = 3 then 1 else 0
  | .sub _ _ => if k = 4 then 1 else 0
  | .natMul _ _ => 0
  | .intMul _ x => ktT k x
  | .add x y => ktT k x + ktT k y
theorem ktT_lt : ∀ d : Dv, ktT 1 d = ltT d
  | .zero => rfl
  | .var _ => rfl
  | .neg _ => rfl
  | .sub _ _ => rfl
  | .natMul _ _ => rfl
  | .intMul _ x => ktT_lt x
  | .add x y => by
    show ktT 1 x + ktT 1 y = ltT x + ltT y
    rw [ktT_lt x, ktT_lt y]
theorem ktT_ft : ∀ d : Dv, ktT 3 d = ftT d
  | .zero => rfl
  | .var _ => rfl
  | .neg _ => rfl
  | .sub _ _ => rfl
  | .natMul _ _ => rfl
  | .intMul _ x => ktT_ft x
  | .add x y => by
    show ktT 3 x + ktT 3 y = ftT x + ftT y
    rw [ktT_ft x, ktT_ft y]
/-- one node's row -/
def Rw (e : Bool) (R : Gm) (d : Dv) (N k l m a b u : Int) : Prop := (R 0 N = k ∧ R 1 N = l ∧ R 2 N = m ∧ R 3 N = a ∧ R 4 N = b ∧ R 5 N = u) ∧ (k ≠ 2 → 0 ≤ l ∧ l < 26) ∧ (0 ≤ m ∧ m ≤ 2) ∧ (e = true → R 6 N = ltT d ∧ R 7 N = ftT d)
def Hd (e : Bool) (R : Gm) : Dv → Int → Int → Prop
  | .zero, N, u => Rw e R .zero N 2 (-1) 0 (-1) (-1) u
  | .var a, N, u => Rw e R (.var a) N 1 a 0 (-1) (-1) u
  | .neg x, N, u => Rw e R (.neg x) N 3 (vrT x) 0 (-1) (-1) u
  | .sub x y, N, u => Rw e R (.sub x y) N 4 (vrT y) 0 (-1) (-1) u
  | .natMul _ _, _, _ => False
  | .intMul m x, N, u => Rw e R (.intMul m x) N 0 (m % 26) (m / 26) (N + 1) (-1) u ∧ Hd e R x (N + 1) N
  | .add x (.intMul m y), N, u => Rw e R (.add x (.intMul m y)) N 0 (m % 26) (m / 26) (N + 1) (N + 1 + szT x) u ∧ Hd e R x (N + 1) N ∧ Hd e R y (N + 1 + szT x) N
  | .add _ .zero, _, _ => False
  | .add _ (.var _), _, _ => False
  | .add _ (.neg _), _, _ => False
  | .add _ (.sub _ _), _, _ => False
  | .add _ (.natMul _ _), _, _ => False
  | .add _ (.add _ _), _, _ => False
section
variable {e e' : Bool} {R R' : Gm}
theorem Rw_eq {d : Dv} {N k l m a b u : Int} (h : Rw e R d N k l m a b u) (q : ∀ i, 0 ≤ i → i < 8 → R' i N = R i N) : Rw e R' d N k l m a b u := by
  unfold Rw at h ⊢
  rw [q 0 (by decide) (by decide), q 1 (by decide) (by decide), q 2 (by decide) (by decide), q 3 (by decide) (by decide), q 4 (by decide) (by decide), q 5 (by decide) (by decide), q 6 (by decide) (by decide), q 7 (by decide) (by decide)]
  exact h
theorem Hd_eq : ∀ (d : Dv) (N u : Int), Hd e R d N u → (∀ i n, 0 ≤ i → i < 8 → N ≤ n → n < N + (szT d : Int) → R' i n = R i n) → Hd e R' d N u
  | .zero, N, u, h, q => Rw_eq (d := .zero) h (fun i i0 i1 => q i N i0 i1 (Int.le_refl _) (by show N < N + ((1 : Nat) : Int); omega))
  | .var a, N, u, h, q => Rw_eq (d := .var a) h (fun i i0 i1 => q i N i0 i1 (Int.le_refl _) (by show N < N + ((1 : Nat) : Int); omega))
  | .neg x, N, u, h, q => Rw_eq (d := .neg x) h (fun i i0 i1 => q i N i0 i1 (Int.le_refl _) (by show N < N + ((1 : Nat) : Int); omega))
  | .sub x y, N, u, h, q => Rw_eq (d := .sub x y) h (fun i i0 i1 => q i N i0 i1 (Int.le_refl _) (by show N < N + ((1 : Nat) : Int); omega))
  | .natMul _ _, _, _, h, _ => h.elim
  | .intMul m x, N, u, h, q => by
    have z : ((szT (.intMul m x) : Nat) : Int) = szT x + 1 := by show ((szT x + 1 : Nat) : Int) = _; omega
    rw [z] at q
    exact ⟨Rw_eq h.1 (fun i i0 i1 => q i N i0 i1 (Int.le_refl _) (by omega)), Hd_eq x (N + 1) N h.2 (fun i n i0 i1 n0 n1 => q i n i0 i1 (by omega) (by omega))⟩
  | .add x (.intMul m y), N, u, h, q => by
    have z : ((szT (.add x (.intMul m y)) : Nat) : Int) = szT x + szT y + 1 := by show ((szT x + (szT y + 1) : Nat) : Int) = _; omega
    rw [z] at q
    exact ⟨Rw_eq h.1 (fun i i0 i1 => q i N i0 i1 (Int.le_refl _) (by omega)), Hd_eq x (N + 1) N h.2.1 (fun i n i0 i1 n0 n1 => q i n i0 i1 (by omega) (by omega)), Hd_eq y (N + 1 + szT x) N h.2.2 (fun i n i0 i1 n0 n1 => q i n i0 i1 (by omega) (by omega))⟩
  | .add _ .zero, _, _, h, _ => h.elim
  | .add _ (.var _), _, _, h, _ => h.elim
  | .add _ (.neg _), _, _, h, _ => h.elim
  | .add _ (.sub _ _), _, _, h, _ => h.elim
  | .add _ (.natMul _ _), _, _, h, _ => h.elim
  | .add _ (.add _ _), _, _, h, _ => h.elim
theorem Rw_un {d : Dv} {N k l m a b u : Int} (h : Rw e R d N k l m a b u) (h' : Rw e' R' d N k l m a b u) : ∀ i, 0 ≤ i → i < 6 → R' i N = R i N := by
  intro i i0 i1
  have : i = 0 ∨ i = 1 ∨ i = 2 ∨ i = 3 ∨ i = 4 ∨ i = 5 := by omega
  rcases this with rfl | rfl | rfl | rfl | rfl | rfl
  · rw [h.1.1, h'.1.1]
  · rw [h.1.2.1, h'.1.2.1]
  · rw [h.1.2.2.1, h'.1.2.2.1]
  · rw [h.1.2.2.2.1, h'.1.2.2.2.1]
  · rw [h.1.2.2.2.2.1, h'.1.2.2.2.2.1]
  · rw [h.1.2.2.2.2.2, h'.1.2.2.2.2.2]
/-- what a tree says of its rows -/
theorem Hd_un : ∀ (d : Dv) (N u : Int), Hd e R d N u → Hd e' R' d N u → ∀ i n, 0 ≤ i → i < 6 → N ≤ n → n < N + (szT d : Int) → R' i n = R i n
  | .zero, N, u, h, h', i, n, i0, i1, n0, n1 => by
    have z : n = N := by have : n < N + ((1 : Nat) : Int) := n1; omega
    rw [z]; exact Rw_un (d := .zero) h h' i i0 i1
  | .var a, N, u, h, h', i, n, i0, i1, n0, n1 => by
    have z : n = N := by have : n < N + ((1 : Nat) : Int) := n1; omega
    rw [z]; exact Rw_un (d := .var a) h h' i i0 i1
  | .neg x, N, u, h, h', i, n, i0, i1, n0, n1 => by
    have z : n = N := by have : n < N + ((1 : Nat) : Int) := n1; omega
    rw [z]; exact Rw_un (d := .neg x) h h' i i0 i1
  | .sub x y, N, u, h, h', i, n, i0, i1, n0, n1 => by
    have z : n = N := by have : n < N + ((1 : Nat) : Int) := n1; omega
    rw [z]; exact Rw_un (d := .sub x y) h h' i i0 i1
  | .natMul _ _, _, _, h, _, _, _, _, _, _, _ => h.elim
  | .intMul m x, N, u, h, h', i, n, i0, i1, n0, n1 => by
    have z : ((szT (.intMul m x) : Nat) : Int) = szT x + 1 := by show ((szT x + 1 : Nat) : Int) = _; omega
    rw [z] at n1
    by_cases hn : n = N
    · rw [hn]; exact Rw_un h.1 h'.1 i i0 i1
    · exact Hd_un x (N + 1) N h.2 h'.2 i n i0 i1 (by omega) (by omega)
  | .add x (.intMul m y), N, u, h, h', i, n, i0, i1, n0, n1 => by
    have z : ((szT (.add x (.intMul m y)) : Nat) : Int) = szT x + szT y + 1 := by show ((szT x + (szT y + 1) : Nat) : Int) = _; omega
    rw [z] at n1
    by_cases hn : n = N
    · rw [hn]; exact Rw_un h.1 h'.1 i i0 i1
    · by_cases hx : n < N + 1 + szT x
      · exact Hd_un x (N + 1) N h.2.1 h'.2.1 i n i0 i1 (by omega) (by omega)
      · exact Hd_un y (N + 1 + szT x) N h.2.2 h'.2.2 i n i0 i1 (by omega) (by omega)
  | .add _ .zero, _, _, h, _, _, _, _, _, _, _ => h.elim
  | .add _ (.var _), _, _, h, _, _, _, _, _, _, _ => h.elim
  | .add _ (.neg _), _, _, h, _, _, _, _, _, _, _ => h.elim
  | .add _ (.sub _ _), _, _, h, _, _, _, _, _, _, _ => h.elim
  | .add _ (.natMul _ _), _, _, h, _, _, _, _, _, _, _ => h.elim
  | .add _ (.add _ _), _, _, h, _, _, _, _, _, _, _ => h.elim
/-- the part of the tree at a node -/
def Sb (e : Bool) (R : Gm) (d : Dv) (N u n : Int) (x : Dv) (w : Int) : Prop := Hd e R x n w ∧ n + (szT x : Int) ≤ N + szT d ∧ ltT x ≤ ltT d ∧ ftT x ≤ ftT d ∧ (∀ k, ktT k x ≤ ktT k d) ∧ (n = N → x = d ∧ w = u) ∧ (N < n → N ≤ w ∧ w < n)
theorem Sb_rf {d : Dv} {N u : Int} (h : Hd e R d N u) : Sb e R d N u N d u := ⟨h, Int.le_refl _, Nat.le_refl _, Nat.le_refl _, fun _ => Nat.le_refl _, fun _ => ⟨rfl, rfl⟩, fun z => by omega⟩
theorem Hd_at : ∀ (d : Dv) (N u : Int), Hd e R d N u → ∀ n, N ≤ n → n < N + (szT d : Int) → ∃ x w, Sb e R d N u n x w
  | .zero, N, u, h, n, n0, n1 => by
    have z : n = N := by have : n < N + ((1 : Nat) : Int) := n1; omega
    rw [z]; exact ⟨_, _, Sb_rf h⟩
  | .var a, N, u, h, n, n0, n1 => by
    have z : n = N := by have : n < N + ((1 : Nat) : Int) := n1; omega
    rw [z]; exact ⟨_, _, Sb_rf h⟩
  | .neg x, N, u, h, n, n0, n1 => by
    have z : n = N := by have : n < N + ((1 : Nat) : Int) := n1; omega
    rw [z]; exact ⟨_, _, Sb_rf h⟩
  | .sub x y, N, u, h, n, n0, n1 => by
    have z : n = N := by have : n < N + ((1 : Nat) : Int) := n1; omega
    rw [z]; exact ⟨_, _, Sb_rf h⟩
  | .natMul _ _, _, _, h, _, _, _ => h.elim
  | .intMul m x, N, u, h, n, n0, n1 => by
    have z : ((szT (.intMul m x) : Nat) : Int) = szT x + 1 := by show ((szT x + 1 : Nat) : Int) = _; omega
    by_cases hn : n = N
    · rw [hn]; exact ⟨_, _, Sb_rf h⟩
    · rw [z] at n1
      obtain ⟨y, w, s1, s2, s3, s4, s5, s6, s7⟩ := Hd_at x (N + 1) N h.2 n (by omega) (by omega)
      refine ⟨y, w, s1, by rw [z]; omega, s3, s4, s5, fun q => absurd q hn, fun _ => ?_⟩
      by_cases hm : n = N + 1
      · rw [(s6 hm).2]; omega
      · have := s7 (by omega); omega
  | .add x (.intMul m y), N, u, h, n, n0, n1 => by
    have z : ((szT (.add x (.intMul m y)) : Nat) : Int) = szT x + szT y + 1 := by show ((szT x + (szT y + 1) : Nat) : Int) = _; omega
    by_cases hn : n = N
    · rw [hn]; exact ⟨_, _, Sb_rf h⟩
    · rw [z] at n1
      have l3 : ltT (.add x (.intMul m y)) = ltT x + ltT y := rfl
      have l4 : ftT (.add x (.intMul m y)) = ftT x + ftT y := rfl
      have l5 : ∀ k, ktT k (.add x (.intMul m y)) = ktT k x + ktT k y := fun _ => rfl
      by_cases hx : n < N + 1 + szT x
      · obtain ⟨v, w, s1, s2, s3, s4, s5, s6, s7⟩ := Hd_at x (N + 1) N h.2.1 n (by omega) (by omega)
        refine ⟨v, w, s1, by rw [z]; omega, by omega, by omega, fun k => by have := s5 k; rw [l5]; omega, fun q => absurd q hn, fun _ => ?_⟩
        by_cases hm : n = N + 1
        · rw [(s6 hm).2]; omega
        · have := s7 (by omega); omega
      · obtain ⟨v, w, s1, s2, s3, s4, s5, s6, s7⟩ := Hd_at y (N + 1 + szT x) N h.2.2 n (by omega) (by omega)
        refine ⟨v, w, s1, by rw [z]; omega, by omega, by omega, fun k => by have := s5 k; rw [l5]; omega, fun q => absurd q hn, fun _ => ?_⟩
        by_cases hm : n = N + 1 + szT x
        · rw [(s6 hm).2]; omega
        · have := s7 (by omega); omega
  | .add _ .zero, _, _, h, _, _, _ => h.elim
  | .add _ (.var _), _, _, h, _, _, _ => h.elim
  | .add _ (.neg _), _, _, h, _, _, _ => h.elim
  | .add _ (.sub _ _), _, _, h, _, _, _ => h.elim
  | .add _ (.natMul _ _), _, _, h, _, _, _ => h.elim
  | .add _ (.add _ _), _, _, h, _, _, _ => h.elim
/-- a node of a kind there is, where the count says so -/
theorem kt_ex {k : Int} (k1 : k = 1 ∨ k = 3 ∨ k = 4) : ∀ (d : Dv) (N u : Int), Hd e R d N u → 1 ≤ ktT k d → ∃ n, N ≤ n ∧ n < N + (szT d : Int) ∧ R 0 n = k
  | .zero, N, u, h, c => by
    have : ktT k .zero = if k = 2 then 1 else 0 := rfl
    rw [this, if_neg (by omega)] at c
    omega
  | .var a, N, u, h, c => by
    have : ktT k (.var a) = if k = 1 then 1 else 0 := rfl
    rw [this] at c
    by_cases z : k = 1
    · exact ⟨N, Int.le_refl _, by show N < N + ((1 : Nat) : Int); omega, by rw [z]; exact h.1.1⟩
    · rw [if_neg z] at c; omega
  | .neg x, N, u, h, c => by
    have : ktT k (.neg x) = if k = 3 then 1 else 0 := rfl
    rw [this] at c
    by_cases z : k = 3
    · exact ⟨N, Int.le_refl _, by show N < N + ((1 : Nat) : Int); omega, by rw [z]; exact h.1.1⟩
    · rw [if_neg z] at c; omega
  | .sub x y, N, u, h, c => by
    have : ktT k (.sub x y) = if k = 4 then 1 else 0 := rfl
    rw [this] at c
    by_cases z : k = 4
    · exact ⟨N, Int.le_refl _, by show N < N + ((1 : Nat) : Int); omega, by rw [z]; exact h.1.1⟩
    · rw [if_neg z] at c; omega
  | .natMul _ _, _, _, h, _ => h.elim
  | .intMul m x, N, u, h, c => by
    have z : ((szT (.intMul m x) : Nat) : Int) = szT x + 1 := by show ((szT x + 1 : Nat) : Int) = _; omega
    obtain ⟨n, n0, n1, q⟩ := kt_ex k1 x (N + 1) N h.2 c
    exact ⟨n, by omega, by rw [z]; omega, q⟩
  | .add x (.intMul m y), N, u, h, c => by
    have z : ((szT (.add x (.intMul m y)) : Nat) : Int) = szT x + szT y + 1 := by show ((szT x + (szT y + 1) : Nat) : Int) = _; omega
    have c' : 1 ≤ ktT k x + ktT k y := c
    by_cases hx : 1 ≤ ktT k x
    · obtain ⟨n, n0, n1, q⟩ := kt_ex k1 x (N + 1) N h.2.1 hx
      exact ⟨n, by omega, by rw [z]; omega, q⟩
    · obtain ⟨n, n0, n1, q⟩ := kt_ex k1 y (N + 1 + szT x) N h.2.2 (by omega)
      exact ⟨n, by omega, by rw [z]; omega, q⟩
  | .add _ .zero, _, _, h, _ => h.elim
  | .add _ (.var _), _, _, h, _ => h.elim
  | .add _ (.neg _), _, _, h, _ => h.elim
  | .add _ (.sub _ _), _, _, h, _ => h.elim
  | .add _ (.natMul _ _), _, _, h, _ => h.elim
  | .add _ (.add _ _), _, _, h, _ => h.elim
theorem Hd_kt : ∀ (x : Dv) (n w k : Int), Hd e R x n w → R 0 n = k → (k = 1 ∨ k = 3 ∨ k = 4) → 1 ≤ ktT k x
  | .zero, n, w, k, h, q, k1 => by have : R 0 n = 2 := h.1.1; omega
  | .var a, n, w, k, h, q, k1 => by
    have : R 0 n = 1 := h.1.1
    have z : ktT k (.var a) = if k = 1 then 1 else 0 := rfl
    rw [z, if_pos (by omega)]
    exact Nat.le_refl 1
  | .neg x, n, w, k, h, q, k1 => by
    have : R 0 n = 3 := h.1.1
    have z : ktT k (.neg x) = if k = 3 then 1 else 0 := rfl
    rw [z, if_pos (by omega)]
    exact Nat.le_refl 1
  | .sub x y, n, w, k, h, q, k1 => by
    have : R 0 n = 4 := h.1.1
    have z : ktT k (.sub x y) = if k = 4 then 1 else 0 := rfl
    rw [z, if_pos (by omega)]
    exact Nat.le_refl 1
  | .natMul _ _, _, _, _, h, _, _ => h.elim
  | .intMul m x, n, w, k, h, q, k1 => by have : R 0 n = 0 := h.1.1.1; omega
  | .add x (.intMul m y), n, w, k, h, q, k1 => by have : R 0 n = 0 := h.1.1.1; omega
  | .add _ .zero, _, _, _, h, _, _ => h.elim
  | .add _ (.var _), _, _, _, h, _, _ => h.elim
  | .add _ (.neg _), _, _, _, h, _, _ => h.elim
  | .add _ (.sub _ _), _, _, _, h, _, _ => h.elim
  | .add _ (.natMul _ _), _, _, _, h, _, _ => h.elim
  | .add _ (.add _ _), _, _, _, h, _, _ => h.elim
theorem kt_of {d : Dv} {N u n k : Int} (h : Hd e R d N u) (n0 : N ≤ n) (n1 : n < N + (szT d : Int)) (q : R 0 n = k) (k1 : k = 1 ∨ k = 3 ∨ k = 4) : 1 ≤ ktT k d := by
  obtain ⟨x, w, s1, s2, s3, s4, s5, s6, s7⟩ := Hd_at d N u h n n0 n1
  exact Nat.le_trans (Hd_kt x n w k s1 q k1) (s5 k)
end
section
variable {tl : Int} {tp : Int → Int}
/-- feet that are read -/
theorem gP_ft : ∀ (f : Nat) (br : Bool) (b rl p N : Int) (fo : Bool) (x : Dv) (p' : Int) (fo' : Bool), gP tl tp f br b rl p N fo = .inr (x, p', fo') → (fo = true → ftT x = 0 ∧ fo' = true) ∧ (fo = false → ftT x = if fo' = true then 1 else 0)
  | 0, _, _, _, _, _, _, _, _, _, e => by
    unfold gP at e
    exact absurd e (by simp)
  | f + 1, true, b, rl, p, N, fo, x, p', fo', e => by
    unfold gP at e
    by_cases h1 : isLb (tpC tl tp p) = false
    · rw [if_pos h1] at e; exact absurd e (by simp)
    · rw [if_neg h1] at e
      by_cases h2 : rmN b N = false
      · rw [if_pos h2] at e; exact absurd e (by simp)
      · rw [if_neg h2] at e
        cases hx : gP tl tp f false b (if N = b then tpC tl tp p - 65 else rl) (mkP tl tp (blA tl tp (p + 1))) (N + 1) fo with
        | inl z => rw [hx] at e; exact absurd e (by simp)
        | inr z =>
          obtain ⟨u, p3, fo1⟩ := z
          rw [hx] at e
          have i1 := gP_ft f false _ _ _ _ _ _ _ _ hx
          simp only at e
          by_cases h3 : tpC tl tp p3 = 41
          · rw [if_pos h3] at e
            injection e with e
            injection e with e1 e2
            injection e2 with e2 e3
            rw [← e1, ← e3]
            exact i1
          · rw [if_neg h3] at e
            cases hy : gP tl tp f false b (if N = b then tpC tl tp p - 65 else rl) p3 (N + 1 + szT u) fo1 with
            | inl z => rw [hy] at e; exact absurd e (by simp)
            | inr z =>
              obtain ⟨w, p4, fo2⟩ := z
              rw [hy] at e
              have i2 := gP_ft f false _ _ _ _ _ _ _ _ hy
              simp only at e
              injection e with e
              injection e with e1 e2
              injection e2 with e2 e3
              rw [← e1, ← e3]
              show (fo = true → ftT u + ftT w = 0 ∧ fo2 = true) ∧ (fo = false → ftT u + ftT w = if fo2 = true then 1 else 0)
              refine ⟨fun q => ?_, fun q => ?_⟩
              · have a := i1.1 q
                have b := i2.1 a.2
                exact ⟨by omega, b.2⟩
              · have a := i1.2 q
                cases fo1 with
                | true =>
                  have b := i2.1 rfl
                  rw [if_pos rfl] at a
                  rw [if_pos b.2]
                  omega
                | false =>
                  have b := i2.2 rfl
                  rw [if_neg (by decide)] at a
                  omega
  | f + 1, false, b, rl, p, N, fo, x, p', fo', e => by
    unfold gP at e
    have leaf : ∀ (y : Dv) (q : Int), ftT y = 0 → (Sum.inr (y, q, fo) : PRs) = .inr (x, p', fo') → (fo = true → ftT x = 0 ∧ fo' = true) ∧ (fo = false → ftT x = if fo' = true then 1 else 0) := by
      intro y q s1 e
      injection e with e
      injection e with e1 e2
      injection e2 with e2 e3
      rw [← e1, ← e3, s1]
      exact ⟨fun q => ⟨rfl, q⟩, fun q => by rw [q]; rfl⟩
    by_cases h1 : tpC tl tp p = 40
    · rw [if_pos h1] at e
      cases hx : gP tl tp f true b rl (blA tl tp (p + 1)) N fo with
      | inl z => rw [hx] at e; exact absurd e (by simp)
      | inr z =>
        obtain ⟨u, p3, fo1⟩ := z
        rw [hx] at e
        have i1 := gP_ft f true _ _ _ _ _ _ _ _ hx
        simp only at e
        by_cases h3 : tpC tl tp p3 = 41
        · rw [if_pos h3] at e
          injection e with e
          injection e with e1 e2
          injection e2 with e2 e3
          rw [← e1, ← e3]
          exact i1
        · rw [if_neg h3] at e; exact absurd e (by simp)
    · rw [if_neg h1] at e
      by_cases h2 : isLb (tpC tl tp p) = true
      · rw [if_pos h2] at e
        by_cases h3 : tpC tl tp (blA tl tp (p + 1)) = 42 ∧ (fo = true ∨ rl ≠ tpC tl tp p - 65)
        · rw [if_pos h3] at e; exact absurd e (by simp)
        · rw [if_neg h3] at e
          by_cases h4 : rmN b N = false
          · rw [if_pos h4] at e; exact absurd e (by simp)
          · rw [if_neg h4] at e
            by_cases h5 : tpC tl tp (blA tl tp (p + 1)) = 42
            · rw [if_pos h5] at e
              injection e with e
              injection e with e1 e2
              injection e2 with e2 e3
              rw [← e1, ← e3]
              refine ⟨fun q => absurd ⟨h5, Or.inl q⟩ h3, fun _ => rfl⟩
            · rw [if_neg h5] at e
              by_cases h6 : tpC tl tp (blA tl tp (p + 1)) = 94
              · rw [if_pos h6] at e
                exact leaf _ _ rfl e
              · rw [if_neg h6] at e; exact absurd e (by simp)
      · rw [if_neg h2] at e
        by_cases h3 : isLt (tpC tl tp p) = true
        · rw [if_pos h3] at e
          by_cases h4 : rmN b N = false
          · rw [if_pos h4] at e; exact absurd e (by simp)
          · rw [if_neg h4] at e
            exact leaf _ _ rfl e
        · rw [if_neg h3] at e
          by_cases h5 : tpC tl tp p = 46
          · rw [if_pos h5] at e
            by_cases h4 : rmN b N = false
            · rw [if_pos h4] at e; exact absurd e (by simp)
            · rw [if_neg h4] at e
              exact leaf _ _ rfl e
          · rw [if_neg h5] at e; exact absurd e (by simp)
end
