/-! the k-th letter of a set -/
def bl (v : Nat) : Nat → Nat → List Nat
  | _, 0 => []
  | t, m + 1 => if v.testBit t then t :: bl v (t + 1) m else bl v (t + 1) m
theorem bl_filter (v : Nat) : ∀ (m t : Nat), bl v t m = (List.range' t m).filter (fun t => v.testBit t)
  | 0, _ => rfl
  | m + 1, t => by
    rw [List.range'_succ, List.filter_cons, ← bl_filter v m (t + 1)]
    rfl
theorem bitsN_bl (v : Nat) : bitsN v = bl v 0 26 := by
  unfold bitsN
  rw [bl_filter, List.range_eq_range']
theorem bl_congr {v w : Nat} : ∀ (m t : Nat), (∀ s, t ≤ s → v.testBit s = w.testBit s) → bl v t m = bl w t m
  | 0, _, _ => rfl
  | m + 1, t, h => by
    unfold bl
    rw [h t (Nat.le_refl _), bl_congr m (t + 1) (fun s hs => h s (by omega))]
theorem bl_skip {v : Nat} : ∀ (a t m : Nat), (∀ s, t ≤ s → s < t + a → v.testBit s = false) → bl v t (a + m) = bl v (t + a) m
  | 0, t, m, _ => by rw [Nat.zero_add, Nat.add_zero]
  | a + 1, t, m, h => by
    rw [show a + 1 + m = a + m + 1 by omega]
    show (if v.testBit t then t :: bl v (t + 1) (a + m) else bl v (t + 1) (a + m)) = _
    rw [h t (Nat.le_refl _) (by omega), if_neg (by decide), bl_skip a (t + 1) m (fun s h1 h2 => h s (by omega) (by omega)), show t + 1 + a = t + (a + 1) by omega]
theorem bl_head {v r : Nat} {rest : List Nat} : ∀ (m t : Nat), bl v t m = r :: rest → t ≤ r ∧ r < t + m ∧ v.testBit r = true ∧ (∀ s, t ≤ s → s < r → v.testBit s = false) ∧ rest = bl v (r + 1) (t + m - r - 1)
  | 0, t, h => by cases h
  | m + 1, t, h => by
    unfold bl at h
    by_cases hb : v.testBit t = true
    · rw [if_pos hb] at h
      injection h with h1 h2
      subst h1
      refine ⟨Nat.le_refl _, by omega, hb, fun s a b => by omega, ?_⟩
      rw [← h2, show t + (m + 1) - t - 1 = m by omega]
    · rw [if_neg hb] at h
      obtain ⟨a, b, c, d, e⟩ := bl_head m (t + 1) h
      refine ⟨by omega, by omega, c, fun s s0 s1 => ?_, ?_⟩
      · by_cases hs : s = t
        · subst hs; simpa using hb
        · exact d s (by omega) s1
      · rw [e, show t + 1 + m - r - 1 = t + (m + 1) - r - 1 by omega]
/-- a number by its lowest bit -/
theorem low_bit {v r : Nat} (h1 : v.testBit r = true) (h2 : ∀ s, s < r → v.testBit s = false) : v = 2 ^ (r + 1) * (v / 2 ^ (r + 1)) + 2 ^ r := by
  have hm : v % 2 ^ (r + 1) = 2 ^ r := by
    apply Nat.eq_of_testBit_eq
    intro i
    rw [Nat.testBit_mod_two_pow, Nat.testBit_two_pow]
    by_cases hi : i < r + 1
    · rw [decide_eq_true hi, Bool.true_and]
      by_cases hr : r = i
      · subst hr; rw [h1]; simp
      · rw [h2 i (by omega)]; simp [hr]
    · rw [decide_eq_false hi, Bool.false_and, decide_eq_false (by omega)]
  have := Nat.div_add_mod v (2 ^ (r + 1))
  omega
theorem tb_low {q r i : Nat} : (2 ^ (r + 1) * q + 2 ^ r).testBit i = if i < r + 1 then decide (r = i) else q.testBit (i - (r + 1)) := by
  rw [Nat.testBit_two_pow_mul_add q (Nat.pow_lt_pow_right (by decide) (by omega)), Nat.testBit_two_pow]
theorem tb_dec {q r i : Nat} : (2 ^ (r + 1) * q + 2 ^ r - 1).testBit i = if i < r + 1 then decide (i < r) else q.testBit (i - (r + 1)) := by
  have hp : 0 < 2 ^ r := Nat.two_pow_pos r
  rw [show 2 ^ (r + 1) * q + 2 ^ r - 1 = 2 ^ (r + 1) * q + (2 ^ r - 1) by omega, Nat.testBit_two_pow_mul_add q (by rw [Nat.pow_succ]; omega), Nat.testBit_two_pow_sub_one]
theorem clr_bit {v r : Nat} {rest : List Nat} (hv : bitsN v = r :: rest) : bitsN (v &&& (v - 1)) = rest := by
  rw [bitsN_bl] at hv ⊢
  obtain ⟨-, r1, hr, hz, he⟩ := bl_head 26 0 hv
  have hl := low_bit hr (fun s hs => hz s (by omega) hs)
  generalize v / 2 ^ (r + 1) = q at hl
  have tb : ∀ i, (v &&& (v - 1)).testBit i = if i < r + 1 then false else v.testBit i := by
    intro i
    rw [Nat.testBit_and, hl, tb_low, tb_dec]
    by_cases hi : i < r + 1
    · rw [if_pos hi, if_pos hi, if_pos hi]
      by_cases h : r = i
      · subst h; simp
      · simp [h]
    · rw [if_neg hi, if_neg hi, if_neg hi, Bool.and_self]
  rw [show 26 = (r + 1) + (26 - (r + 1)) by omega, bl_skip (r + 1) 0 (26 - (r + 1)) (fun s _ hs => by rw [tb, if_pos (by omega)]), he]
  rw [Nat.zero_add, show 0 + 26 - r - 1 = 26 - (r + 1) by omega]
  exact bl_congr _ _ (fun s hs => by rw [tb, if_neg (by omega)])
def nz2 (J : Int) : Option Int :=
  if 0 < J then
    if J ≤ 65536 then
      JI_numberOfTrailingZeros_j34 J 1
    else
      JI_numberOfTrailingZeros_j34 (i_ushr J 16) (w32 (1 + 16))
  else
    some (i_and J 32)
theorem nz2_ok : ∀ r : Fin 26, nz2 (((2 ^ r.val - 1 : Nat)) : Int) = some ((r.val : Nat) : Int) := by decide +kernel
theorem ntz_n {v : Int} (v0 : 0 ≤ v) (v1 : v < 67108864) {r : Nat} {rest : List Nat} (hv : bitsN v.toNat = r :: rest) : JI_numberOfTrailingZeros v = some (r : Int) ∧ r < 26 := by
  rw [bitsN_bl] at hv
  obtain ⟨-, r1, hr, hz, he⟩ := bl_head 26 0 hv
  have hl := low_bit hr (fun s hs => hz s (by omega) hs)
  generalize v.toNat / 2 ^ (r + 1) = q at hl
  have hp : 0 < 2 ^ r := Nat.two_pow_pos r
  have vp : 0 < v.toNat := by omega
  have hJ : i_and (i_xor v (-1)) (w32 (v - 1)) = ((2 ^ r - 1 : Nat) : Int) := by
    rw [show w32 (v - 1) = v - 1 by unfold w32; omega]
    have lt : 2 ^ r - 1 < 2147483648 := by
      have := Nat.pow_le_pow_right (show 0 < 2 by decide) (show r ≤ 25 by omega)
      omega
    unfold i_and i_xor
    rw [i32_of]
    apply of_bv32 _ lt
    apply Nat.eq_of_testBit_eq
    intro i
    rw [Nat.testBit_two_pow_sub_one]
    rw [Int32.toBitVec_and, Int32.toBitVec_xor, BitVec.testBit_toNat, BitVec.getLsbD_and, BitVec.getLsbD_xor]
    rw [← BitVec.testBit_toNat (x := (i32 v).toBitVec), ← BitVec.testBit_toNat (x := (i32 (v - 1)).toBitVec), bv32 v0 (by omega), bv32 (by omega) (by omega)]
    rw [show (i32 (-1)).toBitVec = BitVec.allOnes 32 from rfl, BitVec.getLsbD_allOnes, show (v - 1).toNat = v.toNat - 1 by omega, hl, tb_low, tb_dec]
    by_cases hi : i < r + 1
    · rw [if_pos hi, if_pos hi, decide_eq_true (show i < 32 by omega)]
      by_cases h : r = i
      · subst h; simp
      · simp [h, show i < r by omega]
    · rw [if_neg hi, if_neg hi, decide_eq_false (show ¬ i < r by omega)]
      by_cases h32 : i < 32
      · rw [decide_eq_true h32]
        cases q.testBit (i - (r + 1)) <;> rfl
      · have : (2 ^ (r + 1) * q + 2 ^ r).testBit i = false := by
          rw [← hl]
          exact Nat.testBit_lt_two_pow (Nat.lt_of_lt_of_le (show v.toNat < 2 ^ 26 by omega) (Nat.pow_le_pow_right (by decide) (by omega)))
        rw [tb_low, if_neg hi] at this
        rw [this, Bool.and_false]
  refine ⟨?_, by omega⟩
  show nz2 (i_and (i_xor v (-1)) (w32 (v - 1))) = _
  rw [hJ]
  exact nz2_ok ⟨r, by omega⟩
theorem letterOf_ok {v k : Int} (v0 : 0 ≤ v) (v1 : v < 67108864) (k0 : 0 ≤ k) (k1 : k < 100) {r : Nat} (hr : (bitsN v.toNat)[k.toNat]? = some r) : Ms_letterOf v k = some (r : Int) := by
  obtain ⟨q, e, p⟩ := loop_ok (body := fun q => Ms_letterOf_L4 v q.1 q.2) (fun s => 0 ≤ s.1 ∧ s.1 ≤ k ∧ 0 ≤ s.2 ∧ s.2 ≤ 26 ∧ (bl v.toNat s.2.toNat (26 - s.2.toNat))[s.1.toNat]? = some r) (fun s => (26 - s.2).toNat) (fun q => q = .inl (r : Int)) (by
    rintro ⟨a, t⟩ ⟨a0, a1, t0, t1, hq⟩
    simp only at a0 a1 t0 t1 hq
    simp only
    unfold Ms_letterOf_L4 Ms_letterOf_j28
    by_cases ht : 26 ≤ t
    · exfalso
      rw [show 26 - t.toNat = 0 by omega] at hq
      cases hq
    · have hb : i_and (i_shr v t) 1 = if v.toNat.testBit t.toNat then 1 else 0 := bit_n v0 (by omega) t0 (by omega)
      rw [show 26 - t.toNat = (26 - (t + 1).toNat) + 1 by omega] at hq
      unfold bl at hq
      rw [if_neg ht, hb, show w32 (t + 1) = t + 1 by unfold w32; omega]
      rw [show t.toNat + 1 = (t + 1).toNat by omega] at hq
      by_cases hbt : v.toNat.testBit t.toNat = true
      · rw [if_pos hbt] at hq
        rw [if_pos hbt, if_pos rfl]
        by_cases ha : a = 0
        · right
          subst ha
          rw [if_pos rfl]
          simp at hq
          exact ⟨_, rfl, by rw [← hq, show ((t.toNat : Nat) : Int) = t by omega]⟩
        · left
          rw [if_neg ha, show w32 (a + -1) = a - 1 by unfold w32; omega]
          refine ⟨_, rfl, ⟨by simp only; omega, by simp only; omega, by simp only; omega, by simp only; omega, ?_⟩, by simp only; omega⟩
          simp only
          rw [show a.toNat = (a - 1).toNat + 1 by omega, List.getElem?_cons_succ] at hq
          exact hq
      · rw [if_neg hbt] at hq
        left
        rw [if_neg hbt, if_neg (by decide)]
        exact ⟨_, rfl, ⟨a0, a1, by simp only; omega, by simp only; omega, hq⟩, by simp only; omega⟩) LN (k, 0) ⟨k0, Int.le_refl _, Int.le_refl _, by simp only; omega, by
      simp only
      rw [bitsN_bl] at hr
      exact hr⟩ (by unfold LN; simp only; omega)
  subst p
  unfold Ms_letterOf
  rw [e, ob_some]
theorem letterAt_ok {v k : Int} (v0 : 0 ≤ v) (v1 : v < 67108864) (k0 : 0 ≤ k) (k1 : k < 100) {r : Nat} (hr : (bitsN v.toNat)[k.toNat]? = some r) : M_letterAt v k = some (r : Int) := by
  obtain ⟨q, e, p0, p1, p2⟩ := loop_ok (body := fun q => M_letterAt_L4 k q.1 q.2) (fun s => 0 ≤ s.1 ∧ s.1 < 67108864 ∧ 0 ≤ s.2 ∧ s.2 ≤ k ∧ (bitsN s.1.toNat)[(k - s.2).toNat]? = some r) (fun s => (k - s.2).toNat) (fun q => 0 ≤ q ∧ q < 67108864 ∧ (bitsN q.toNat)[0]? = some r) (by
    rintro ⟨a, t⟩ ⟨a0, a1, t0, t1, hq⟩
    simp only at a0 a1 t0 t1 hq
    simp only
    unfold M_letterAt_L4
    by_cases ht : k ≤ t
    · right
      refine ⟨a, by rw [if_pos ht], a0, a1, ?_⟩
      rw [show (k - t).toNat = 0 by omega] at hq
      exact hq
    · left
      rw [if_neg ht, show w32 (t + 1) = t + 1 by unfold w32; omega]
      cases hb : bitsN a.toNat with
      | nil => rw [hb] at hq; cases hq
      | cons x rest =>
        have ap : 0 < a := by
          apply Classical.byContradiction
          intro hz
          have : a.toNat = 0 := by omega
          rw [this] at hb
          have e0 : bitsN 0 = [] := by decide
          rw [e0] at hb
          cases hb
        have hc := clr_bit hb
        rw [hb, show (k - t).toNat = (k - (t + 1)).toNat + 1 by omega, List.getElem?_cons_succ] at hq
        have le : a.toNat &&& (a.toNat - 1) ≤ a.toNat := Nat.and_le_left
        refine ⟨_, rfl, ⟨?_, ?_, by simp only; omega, by simp only; omega, ?_⟩, by simp only; omega⟩
        · simp only
          rw [show w32 (a - 1) = a - 1 by unfold w32; omega, i_and_n a0 (by omega) (by omega) (by omega)]
          exact Int.natCast_nonneg _
        · simp only
          rw [show w32 (a - 1) = a - 1 by unfold w32; omega, i_and_n a0 (by omega) (by omega) (by omega), show (a - 1).toNat = a.toNat - 1 by omega]
          omega
        · simp only
          rw [show w32 (a - 1) = a - 1 by unfold w32; omega, i_and_n a0 (by omega) (by omega) (by omega), show (a - 1).toNat = a.toNat - 1 by omega, Int.toNat_natCast, hc]
          exact hq) LN (v, 0) ⟨v0, v1, Int.le_refl _, k0, by simp only; rw [show k - 0 = k by omega]; exact hr⟩ (by unfold LN; simp only; omega)
  unfold M_letterAt
  rw [e, ob_some]
  cases hb : bitsN q.toNat with
  | nil => rw [hb] at p2; cases p2
  | cons x rest =>
    rw [hb] at p2
    simp at p2
    subst p2
    rw [(ntz_n p0 p1 hb).1, ob_some]
