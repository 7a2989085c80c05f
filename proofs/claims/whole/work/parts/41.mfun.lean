/-- a number of ways, as both hold it: one number stands for all that are too many -/
def capN (n : Nat) : Int := min (n : Int) 1000000000000001
theorem capN_in (n : Nat) : 0 ≤ capN n ∧ capN n ≤ 1000000000000001 := by unfold capN; omega
theorem capN_0 {n : Nat} : capN n = 0 ↔ n = 0 := by unfold capN; omega
theorem M_sum_ok (x y : Nat) : M_sum (capN x) (capN y) = some (capN (x + y)) := by
  unfold M_sum capN w64
  congr 1
  omega
theorem capN_big {n : Nat} (h : 1000000000000000 < (n : Int)) : capN n = 1000000000000001 := by unfold capN; omega
theorem capN_small {n : Nat} (h : (n : Int) ≤ 1000000000000001) : capN n = n := by unfold capN; omega
theorem M_product_ok (x y : Nat) : M_product (capN x) (capN y) = some (capN (x * y)) := by
  unfold M_product
  by_cases hx : x = 0
  · subst hx
    rw [if_pos (capN_0.mpr rfl), Nat.zero_mul]; rfl
  rw [if_neg (fun e => hx (capN_0.mp e))]
  by_cases hy : y = 0
  · subst hy
    rw [if_pos (capN_0.mpr rfl), Nat.mul_zero]; rfl
  rw [if_neg (fun e => hy (capN_0.mp e)), if_pos (fun e => hy (capN_0.mp e))]
  congr 1
  have a := capN_in x
  have b := capN_in y
  have a0 : 1 ≤ capN x := by have : capN x ≠ 0 := fun e => hx (capN_0.mp e); omega
  have b0 : 1 ≤ capN y := by have : capN y ≠ 0 := fun e => hy (capN_0.mp e); omega
  rw [Int.tdiv_eq_ediv_of_nonneg (by decide)]
  have hd : 1000000000000000 / capN y ≤ 1000000000000000 := Int.ediv_le_self _ (by decide)
  have hd0 : 0 ≤ 1000000000000000 / capN y := Int.ediv_nonneg (by decide) (by omega)
  rw [w64_id (by omega) (by omega)]
  by_cases hle : capN x ≤ 1000000000000000 / capN y
  · rw [if_pos hle]
    have h1 : capN x * capN y ≤ 1000000000000000 := (Int.le_ediv_iff_mul_le (by omega)).mp hle
    have h2 : capN x ≤ capN x * capN y := by
      have := Int.mul_le_mul_of_nonneg_left b0 (show (0 : Int) ≤ capN x by omega)
      omega
    have h3 : capN y ≤ capN x * capN y := by
      have := Int.mul_le_mul_of_nonneg_right a0 (show (0 : Int) ≤ capN y by omega)
      omega
    have ex : capN x = x := by unfold capN at *; omega
    have ey : capN y = y := by unfold capN at *; omega
    rw [ex, ey] at h1 ⊢
    rw [w64_id (by have : (0 : Int) ≤ (x : Int) * (y : Int) := Int.mul_nonneg (by omega) (by omega); omega) (by omega), capN_small (by rw [Int.natCast_mul]; omega), Int.natCast_mul]
  · rw [if_neg hle]
    have h1 : ¬ capN x * capN y ≤ 1000000000000000 := fun q => hle ((Int.le_ediv_iff_mul_le (by omega)).mpr q)
    symm
    apply capN_big
    rw [Int.natCast_mul]
    have h2 : capN x ≤ x := by unfold capN; omega
    have h3 : capN y ≤ y := by unfold capN; omega
    have h4 := Int.mul_le_mul h2 h3 (by omega) (by omega)
    omega
section MFUN
variable {h h' : Hp} {G : Gm} {ou : Int → Bool} {row : Int → Int}
theorem M_root_ok (Rp : RepM h G ou row) (W : WF G) {t : Int} (t0 : 0 ≤ t) (t1 : t < nT G) : M_root 121 t h = some (ft G t) := by
  have e1 : h 121 4 = 122 := ms_at Rp.1 (by decide)
  have e2 := Rp.2.2.2.1 t t0 (by omega)
  have := wf_nt W
  unfold M_root
  rw [if_pos kK_121, e1, if_pos ⟨kK_122, t0, by rw [kL_122]; omega⟩, e2]
theorem M_isGuest_ok (Rp : RepM h G ou row) (W : WF G) {t : Int} (t0 : 0 ≤ t) (t1 : t < nT G) : M_isGuest 121 t h = some (sp G (ft G t)) := by
  have e1 : h 121 16 = 132 := ms_at Rp.1 (by decide)
  have e2 := Rp.2.2.2.2.2.1 t t0 t1
  have := wf_nt W
  have hr := root_in W t0 t1
  have hs := (wf_sp W hr.1 hr.2.1).1
  unfold M_isGuest
  rw [if_pos kK_121, e1, if_pos ⟨kK_132, t0, by rw [kL_132]; omega⟩]
  congr 1
  by_cases e : h 132 t = -1
  · rw [if_pos e, e2.mp e]
  · rw [if_neg e]
    have : ¬ sp G (ft G t) = 0 := fun q => e (e2.mpr q)
    omega
theorem goB_iff {t l s : Int} : goB G ou t l s = true ↔ (sp G (ft G t) = s ∧ lb G (ft G t) = l ∧ ou t = false) := by
  unfold goB
  simp only [Bool.and_eq_true, decide_eq_true_eq, Bool.not_eq_true', and_assoc]
theorem M_mayGo_ok (Rp : RepM h G ou row) (W : WF G) {t l s : Int} (t0 : 0 ≤ t) (t1 : t < nT G) : M_mayGo 121 t l s h = some (Bo (goB G ou t l s)) := by
  have e1 : h 121 6 = 124 := ms_at Rp.1 (by decide)
  have hr := root_in W t0 t1
  have hn := wf_nn W
  have e2 := (Rp.2.2.2.2.1 (ft G t) hr.1 hr.2.1).2.1
  have e3 := Rp.2.2.2.2.2.2.1 t t0 t1
  unfold M_mayGo M_mayGo_j38
  rw [if_pos kK_121, M_isGuest_ok Rp W t0 t1, ob_some, M_root_ok Rp W t0 t1, ob_some, e1]
  rw [if_pos (show kK 124 = 21 ∧ (0 : Int) ≤ ft G t ∧ ft G t < kL 124 from ⟨kK_124, hr.1, by rw [kL_124]; omega⟩), e2]
  unfold Bo
  by_cases hg : goB G ou t l s = true
  · obtain ⟨g1, g2, g3⟩ := goB_iff.mp hg
    rw [if_pos hg, if_pos g1, if_pos g2, if_pos (e3.mpr g3)]
  · rw [if_neg hg]
    by_cases g1 : sp G (ft G t) = s
    · rw [if_pos g1]
      by_cases g2 : lb G (ft G t) = l
      · rw [if_pos g2]
        by_cases g3 : ou t = false
        · exact absurd (goB_iff.mpr ⟨g1, g2, g3⟩) hg
        · rw [if_neg (fun q => g3 (e3.mp q))]
      · rw [if_neg g2]
    · rw [if_neg g1]
/-- the place of an item in the rows of what was found -/
def mkey (h : Hp) (half node i j p q : Int) : Int := (half * 40 + node) * 540 + h 139 (1000 * i + 100 * j + 10 * p + q + 11)
theorem itm_span {half node i j p q : Int} (hi : itm G half node i j p q) : 0 ≤ i ∧ i ≤ j ∧ j ≤ 8 ∧ ((p = -1 ∧ q = -1) ∨ (i ≤ p ∧ p ≤ q ∧ q ≤ j)) := by
  obtain ⟨-, n0, n1, i0, ij, j8, d⟩ := hi
  refine ⟨i0, ij, j8, ?_⟩
  rcases d with ⟨-, d⟩ | ⟨-, d⟩
  · exact Or.inr d
  · exact Or.inl d
theorem M_spanOf_ok (Rp : RepM h G ou row) {half node i j p q : Int} (hi : itm G half node i j p q) : M_spanOf 121 i j p q h = some (h 139 (1000 * i + 100 * j + 10 * p + q + 11)) := by
  obtain ⟨i0, ij, j8, d⟩ := itm_span hi
  have e1 : h 121 36 = 139 := ms_at Rp.1 (by decide)
  unfold M_spanOf
  rw [if_pos kK_121, M_place_ok i0 ij j8 (by omega) (by omega), ob_some, e1, if_pos ⟨kK_139, by omega, by rw [kL_139]; omega⟩]
theorem mkey_in (Rp : RepM h G ou row) (W : WF G) {half node i j p q : Int} (hi : itm G half node i j p q) : 0 ≤ mkey h half node i j p q ∧ mkey h half node i j p q < 43200 := by
  obtain ⟨i0, ij, j8, d⟩ := itm_span hi
  have hs := Rp.2.2.2.2.2.2.2.2.1 i j p q i0 ij j8 d
  obtain ⟨hh, n0, n1, -⟩ := hi
  have hn := wf_nn W
  unfold mkey
  omega
theorem M_keyOf_ok (Rp : RepM h G ou row) (W : WF G) {half node i j p q : Int} (hi : itm G half node i j p q) : M_keyOf half node (h 139 (1000 * i + 100 * j + 10 * p + q + 11)) = some (mkey h half node i j p q) := by
  have hk := mkey_in Rp W hi
  obtain ⟨i0, ij, j8, d⟩ := itm_span hi
  have hs := Rp.2.2.2.2.2.2.2.2.1 i j p q i0 ij j8 d
  obtain ⟨hh, n0, n1, -⟩ := hi
  have hn := wf_nn W
  unfold M_keyOf w32
  unfold mkey at hk ⊢
  congr 1
  omega
theorem mkey_inj (Rp : RepM h G ou row) (W : WF G) {half node i j p q half' node' i' j' p' q' : Int} (hi : itm G half node i j p q) (hi' : itm G half' node' i' j' p' q') (he : mkey h half node i j p q = mkey h half' node' i' j' p' q') : half = half' ∧ node = node' ∧ i = i' ∧ j = j' ∧ p = p' ∧ q = q' := by
  obtain ⟨i0, ij, j8, d⟩ := itm_span hi
  obtain ⟨i0', ij', j8', d'⟩ := itm_span hi'
  have hs := Rp.2.2.2.2.2.2.2.2.1 i j p q i0 ij j8 d
  have hs' := Rp.2.2.2.2.2.2.2.2.1 i' j' p' q' i0' ij' j8' d'
  have hn := wf_nn W
  unfold mkey at he
  have a : half = half' ∧ node = node' ∧ h 139 (1000 * i + 100 * j + 10 * p + q + 11) = h 139 (1000 * i' + 100 * j' + 10 * p' + q' + 11) := by
    obtain ⟨hh, n0, n1, -⟩ := hi
    obtain ⟨hh', n0', n1', -⟩ := hi'
    omega
  have b := Rp.2.2.2.2.2.2.2.2.2 i j p q i' j' p' q' i0 ij j8 d i0' ij' j8' d' a.2.2
  exact ⟨a.1, a.2.1, b⟩
end MFUN
