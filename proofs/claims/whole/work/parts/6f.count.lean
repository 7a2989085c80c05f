/-! the class: numbers of ways -/
def agC (lt : Int → Int) : Ag := fun k x y => if k = 0 then min (x + y) 1000000000000001 else if k = 1 then min (x * y) 1000000000000001 else if k = 2 then y else if k = 3 then (if lt x = y then 1 else 0) else 1
def vC (x : Int) : Prop := 0 ≤ x ∧ x ≤ 1000000000000001
theorem agC_E (lt : Int → Int) (x y : Int) : aE (agC lt) x y = min (x + y) 1000000000000001 := rfl
theorem agC_B (lt : Int → Int) (x y : Int) : aB (agC lt) x y = min (x * y) 1000000000000001 := rfl
theorem agC_P (lt : Int → Int) (t x : Int) : aP (agC lt) t x = x := rfl
theorem agC_L (lt : Int → Int) (i l : Int) : aL (agC lt) i l = if lt i = l then 1 else 0 := rfl
theorem agC_1 (lt : Int → Int) : a1 (agC lt) = 1 := rfl
theorem agC_law (lt : Int → Int) : AgL (agC lt) vC := by
  refine ⟨by unfold vC; omega, by rw [agC_1]; unfold vC; omega, ?_, ?_, ?_, ?_, ?_, ?_, ?_, ?_⟩
  · intro i l _ _ _ _
    rw [agC_L]; unfold vC; split <;> omega
  · intro x y hx hy
    rw [agC_E, agC_B]
    unfold vC at *
    have := Int.mul_nonneg hx.1 hy.1
    omega
  · intro t x _ _ hx; exact hx
  · intro x y _ _; rw [agC_E, agC_E, Int.add_comm]
  · intro x y z hx hy hz
    simp only [agC_E]
    unfold vC at *
    omega
  · intro x hx; rw [agC_E]; unfold vC at hx; omega
  · intro x hx; rw [agC_B, agC_B, Int.mul_zero, Int.zero_mul]; decide
  · intro t _ _; rfl
theorem capN_mul (x y : Nat) : min (capN x * capN y) 1000000000000001 = capN (x * y) := by
  have h := M_product_ok x y
  by_cases hx : x = 0
  · subst hx
    rw [Nat.zero_mul, capN_0.mpr rfl, Int.zero_mul]; decide
  by_cases hy : y = 0
  · subst hy
    rw [Nat.mul_zero, capN_0.mpr rfl, Int.mul_zero]; decide
  have a := capN_in x
  have b := capN_in y
  have a0 : 1 ≤ capN x := by have : capN x ≠ 0 := fun e => hx (capN_0.mp e); omega
  have b0 : 1 ≤ capN y := by have : capN y ≠ 0 := fun e => hy (capN_0.mp e); omega
  have m1 := Int.mul_le_mul_of_nonneg_left b0 (show (0 : Int) ≤ capN x by omega)
  have m2 := Int.mul_le_mul_of_nonneg_right a0 (show (0 : Int) ≤ capN y by omega)
  have h2 : capN x ≤ x := by unfold capN; omega
  have h3 : capN y ≤ y := by unfold capN; omega
  have m3 := Int.mul_le_mul h2 h3 (by omega) (by omega)
  have m4 : (x : Int) * (y : Int) = ((x * y : Nat) : Int) := (Int.natCast_mul x y).symm
  by_cases q1 : (x : Int) ≤ 1000000000000001
  · by_cases q2 : (y : Int) ≤ 1000000000000001
    · rw [capN_small q1, capN_small q2, m4]; rfl
    · have e : capN y = 1000000000000001 := by unfold capN; omega
      rw [e] at m2 m3 ⊢
      unfold capN
      omega
  · have e : capN x = 1000000000000001 := by unfold capN; omega
    rw [e] at m1 m3 ⊢
    unfold capN
    omega
theorem count_hom {G : Gm} {ou : Int → Bool} {row : Int → Int} {sz : Int} {S : SV} (W : WF G) (Q : AEq G ou (agC row) vC sz S) {half node i j p q : Int} (h : itm G half node i j p q) (hj : j ≤ sz) : S half node i j p q = capN (wW G ou row half node i j p q) := by
  refine hom_item (ou' := ou) (R := fun x n => x = capN n) W (hom (ou' := ou) (R := fun x n => x = capN n) W (agC_law row) Q (fun t _ _ h => h) (by decide) (by rw [agC_1]; decide) ?_ ?_ ?_ ?_) h hj
  · intro i l _ _ _ _
    rw [agC_L]; split <;> decide
  · intro x y m n _ _ hx hy
    subst hx hy
    rw [agC_E]; unfold capN; omega
  · intro x y m n _ _ hx hy
    subst hx hy
    rw [agC_B]; exact capN_mul m n
  · intro t x n t0 t1 ho _ hx
    rw [ho]; exact hx
/-- the sentence, as the class has it: n letters -/
def LetX (h : Hp) (n : Int) (row : Int → Int) : Prop := h 5 0 = 6 ∧ h 5 1 = n ∧ 0 ≤ n ∧ n ≤ 8 ∧ ∀ i, 0 ≤ i → i < n → h 6 i = row i ∧ 0 ≤ row i ∧ row i < 26
theorem and255_0 : ∀ x : Fin 256, i_and ((x.val : Nat) : Int) 255 = ((x.val : Nat) : Int) := by decide +kernel
theorem and255 {x : Int} (h0 : 0 ≤ x) (h1 : x < 256) : i_and x 255 = x := by
  have := and255_0 ⟨x.toNat, by omega⟩
  simp only at this
  rwa [show ((x.toNat : Nat) : Int) = x by omega] at this
theorem By_at_let {h : Hp} {n : Int} {row : Int → Int} (X : LetX h n row) {i : Int} (i0 : 0 ≤ i) (i1 : i < n) : By_at 5 i h = some (row i) := by
  obtain ⟨x1, x2, x3, x4, x5⟩ := X
  have k1 : kK 5 = 0 := by decide
  have k2 : kK 6 = 20 := by decide
  have k3 : kL 6 = 8 := by decide
  obtain ⟨y1, y2, y3⟩ := x5 i i0 i1
  unfold By_at
  rw [if_neg (by omega), if_pos k1, x2, if_neg (by omega), x1, if_pos k2, k3, if_pos (by omega), if_pos ⟨k2, i0, by omega⟩, y1, and255 y2 (by omega)]
theorem Co_both_ok {x y : Int} (hx : vC x) (hy : vC y) : Co_both 16 x y = some (min (x * y) 1000000000000001) := by
  unfold vC at hx hy
  unfold Co_both
  by_cases h1 : x ≤ 0
  · rw [if_pos h1, show x = 0 by omega, Int.zero_mul]; rfl
  rw [if_neg h1]
  by_cases h2 : 0 < y
  · rw [if_pos h2, if_pos (by omega)]
    congr 1
    rw [Int.tdiv_eq_ediv_of_nonneg (by decide)]
    have hd : 1000000000000001 / y ≤ 1000000000000001 := Int.ediv_le_self _ (by decide)
    have hd0 : 0 ≤ 1000000000000001 / y := Int.ediv_nonneg (by decide) (by omega)
    rw [w64_id (by omega) (by omega)]
    have hp := Int.mul_nonneg hx.1 hy.1
    by_cases hle : x ≤ 1000000000000001 / y
    · have h3 : x * y ≤ 1000000000000001 := (Int.le_ediv_iff_mul_le (by omega)).mp hle
      rw [if_pos hle, w64_id (by omega) (by omega)]
      omega
    · have h3 : ¬ x * y ≤ 1000000000000001 := fun z => hle ((Int.le_ediv_iff_mul_le (by omega)).mpr z)
      rw [if_neg hle]
      omega
  · rw [if_neg h2, show y = 0 by omega, Int.mul_zero]; rfl
theorem agC_R {h : Hp} {o n : Int} {row : Int → Int} (X : LetX h n row) (h16 : h 16 0 = 5) (e3 : h o 3 = 16) (e1 : h o 1 ≤ n) : AgR h o (agC row) vC := by
  have k16 : kK 16 = 2 := by decide
  have k5 : kK 5 = 0 := by decide
  unfold AgR
  rw [e3]
  refine ⟨?_, ?_, ?_, ?_⟩
  · intro x y hx hy
    unfold Al_either Al_both
    rw [if_pos k16, if_pos k16, Co_both_ok hx hy, agC_E]
    refine ⟨?_, rfl⟩
    unfold vC at hx hy
    unfold Co_either w64
    congr 1
    split <;> omega
  · intro t x _ _ _
    unfold Al_placed
    rw [if_pos k16]; rfl
  · intro i l i0 i1 l0 l1
    unfold Al_letterAt Co_letterAt
    rw [if_pos k16, if_pos k16, h16, if_pos k5, By_at_let X i0 (by omega), ob_some]
    rfl
  · unfold Al_one
    rw [if_pos k16]; rfl
