/-! bits of numbers that aren't below 0 -/
theorem bv32 {x : Int} (h0 : 0 ≤ x) (h1 : x < 4294967296) : (i32 x).toBitVec.toNat = x.toNat := by
  show (BitVec.ofInt 32 x).toNat = x.toNat
  rw [BitVec.toNat_ofInt]
  omega
theorem of_bv32 {v : Int32} {n : Nat} (h : v.toBitVec.toNat = n) (hn : n < 2147483648) : v.toInt = n := by
  show v.toBitVec.toInt = n
  rw [BitVec.toInt_eq_toNat_cond, h, if_pos (by omega)]
theorem i_and_n {x y : Int} (x0 : 0 ≤ x) (x1 : x < 2147483648) (y0 : 0 ≤ y) (y1 : y < 2147483648) : i_and x y = ((x.toNat &&& y.toNat : Nat) : Int) := by
  unfold i_and
  apply of_bv32
  · rw [Int32.toBitVec_and, BitVec.toNat_and, bv32 x0 (by omega), bv32 y0 (by omega)]
  · exact Nat.lt_of_le_of_lt Nat.and_le_left (by omega)
theorem i_or_n {x y : Int} (x0 : 0 ≤ x) (x1 : x < 2147483648) (y0 : 0 ≤ y) (y1 : y < 2147483648) : i_or x y = ((x.toNat ||| y.toNat : Nat) : Int) := by
  unfold i_or
  apply of_bv32
  · rw [Int32.toBitVec_or, BitVec.toNat_or, bv32 x0 (by omega), bv32 y0 (by omega)]
  · exact Nat.or_lt_two_pow (n := 31) (by omega) (by omega)
theorem i_xor_n {x y : Int} (x0 : 0 ≤ x) (x1 : x < 2147483648) (y0 : 0 ≤ y) (y1 : y < 2147483648) : i_xor x y = ((x.toNat ^^^ y.toNat : Nat) : Int) := by
  unfold i_xor
  apply of_bv32
  · rw [Int32.toBitVec_xor, BitVec.toNat_xor, bv32 x0 (by omega), bv32 y0 (by omega)]
  · exact Nat.xor_lt_two_pow (n := 31) (by omega) (by omega)
theorem sh31 {t : Int} (t0 : 0 ≤ t) (t1 : t < 32) : ((i32 t &&& 31).toBitVec.smod 32).toNat = t.toNat := by
  have : ∀ k : Fin 32, ((i32 (k.val : Int) &&& 31).toBitVec.smod 32).toNat = k.val := by decide +kernel
  have := this ⟨t.toNat, by omega⟩
  simp only at this
  rwa [show ((t.toNat : Nat) : Int) = t by omega] at this
theorem i_shl_1 {t : Int} (t0 : 0 ≤ t) (t1 : t < 31) : i_shl 1 t = ((2 ^ t.toNat : Nat) : Int) := by
  have : ∀ k : Fin 31, i_shl 1 (k.val : Int) = ((2 ^ k.val : Nat) : Int) := by decide +kernel
  have := this ⟨t.toNat, by omega⟩
  simp only at this
  rwa [show ((t.toNat : Nat) : Int) = t by omega] at this
theorem i_shr_n {x t : Int} (x0 : 0 ≤ x) (x1 : x < 2147483648) (t0 : 0 ≤ t) (t1 : t < 32) : i_shr x t = ((x.toNat >>> t.toNat : Nat) : Int) := by
  unfold i_shr
  apply of_bv32
  · rw [Int32.toBitVec_shiftRight]
    have hm : (i32 x).toBitVec.msb = false := by
      rw [BitVec.msb_eq_false_iff_two_mul_lt, bv32 x0 (by omega)]; omega
    show ((i32 x).toBitVec.sshiftRight' _).toNat = _
    unfold BitVec.sshiftRight'
    rw [BitVec.sshiftRight_eq_of_msb_false hm, BitVec.toNat_ushiftRight, bv32 x0 (by omega), sh31 t0 t1]
  · exact Nat.lt_of_le_of_lt (Nat.shiftRight_le _ _) (by omega)
theorem bit_n {x t : Int} (x0 : 0 ≤ x) (x1 : x < 2147483648) (t0 : 0 ≤ t) (t1 : t < 32) : bit x t = if x.toNat.testBit t.toNat then 1 else 0 := by
  unfold bit
  rw [i_shr_n x0 x1 t0 t1, i_and_n (Int.natCast_nonneg _) (by have := Nat.shiftRight_le x.toNat t.toNat; generalize x.toNat >>> t.toNat = m at *; omega) (by decide) (by decide)]
  rw [show ((((x.toNat >>> t.toNat : Nat) : Int).toNat &&& (1 : Int).toNat : Nat)) = (x.toNat >>> t.toNat) % 2 from Nat.and_one_is_mod _, Nat.testBit_eq_decide_div_mod_eq, Nat.shiftRight_eq_div_pow]
  have := Nat.mod_two_eq_zero_or_one (x.toNat / 2 ^ t.toNat)
  rcases this with z | z
  · rw [z]; rfl
  · rw [z]; rfl
/-- a bit comes in -/
theorem bit_or1 {x t u : Int} (x0 : 0 ≤ x) (x1 : x < 2147483648) (t0 : 0 ≤ t) (t1 : t < 31) (u0 : 0 ≤ u) (u1 : u < 31) : bit (i_or x (i_shl 1 t)) u = if u = t then 1 else bit x u := by
  have hp : 2 ^ t.toNat ≤ 2 ^ 30 := Nat.pow_le_pow_right (by omega) (by omega)
  have ho := Nat.or_lt_two_pow (n := 31) (x := x.toNat) (y := 2 ^ t.toNat) (by omega) (by omega)
  rw [i_shl_1 t0 t1, i_or_n x0 x1 (Int.natCast_nonneg _) (by generalize 2 ^ t.toNat = m at *; omega), Int.toNat_natCast, bit_n (Int.natCast_nonneg _) (by generalize x.toNat ||| 2 ^ t.toNat = m at *; omega) u0 (by omega), bit_n x0 x1 u0 (by omega)]
  simp only [Int.toNat_natCast, Nat.testBit_or, Nat.testBit_two_pow]
  by_cases h : u = t
  · subst h; simp
  · rw [if_neg h, decide_eq_false (show ¬ t.toNat = u.toNat by omega), Bool.or_false]
theorem or1_in {x t n : Int} (x0 : 0 ≤ x) (n0 : 0 ≤ n) (n1 : n < 31) (hx : x < ((2 ^ n.toNat : Nat) : Int)) (t0 : 0 ≤ t) (t1 : t < n) : 0 ≤ i_or x (i_shl 1 t) ∧ i_or x (i_shl 1 t) < ((2 ^ n.toNat : Nat) : Int) := by
  have hp : 2 ^ t.toNat < 2 ^ n.toNat := Nat.pow_lt_pow_right (by omega) (by omega)
  have hq : 2 ^ n.toNat ≤ 2 ^ 30 := Nat.pow_le_pow_right (by omega) (by omega)
  have ho := Nat.or_lt_two_pow (n := n.toNat) (x := x.toNat) (y := 2 ^ t.toNat) (by omega) hp
  rw [i_shl_1 t0 (by omega), i_or_n x0 (by omega) (Int.natCast_nonneg _) (by generalize 2 ^ t.toNat = m at *; omega), Int.toNat_natCast]
  generalize x.toNat ||| 2 ^ t.toNat = m at *
  omega
/-- numbers with the same bits -/
theorem bit_ext {x y n : Int} (n0 : 0 ≤ n) (n1 : n < 31) (x0 : 0 ≤ x) (x1 : x < ((2 ^ n.toNat : Nat) : Int)) (y0 : 0 ≤ y) (y1 : y < ((2 ^ n.toNat : Nat) : Int)) (h : ∀ t, 0 ≤ t → t < n → bit x t = bit y t) : x = y := by
  have hq : 2 ^ n.toNat ≤ 2 ^ 30 := Nat.pow_le_pow_right (by omega) (by omega)
  have : x.toNat = y.toNat := by
    apply Nat.eq_of_testBit_eq
    intro i
    by_cases hi : i < n.toNat
    · have := h i (by omega) (by omega)
      rw [bit_n x0 (by omega) (by omega) (by omega), bit_n y0 (by omega) (by omega) (by omega)] at this
      rw [show ((i : Int)).toNat = i by omega] at this
      cases ha : x.toNat.testBit i <;> cases hb : y.toNat.testBit i
      · rfl
      · rw [ha, hb] at this; simp at this
      · rw [ha, hb] at this; simp at this
      · rfl
    · rw [Nat.testBit_lt_two_pow (Nat.lt_of_lt_of_le (show x.toNat < 2 ^ n.toNat by omega) (Nat.pow_le_pow_right (by omega) (by omega))), Nat.testBit_lt_two_pow (Nat.lt_of_lt_of_le (show y.toNat < 2 ^ n.toNat by omega) (Nat.pow_le_pow_right (by omega) (by omega)))]
  omega
theorem bit_0 {t : Int} (t0 : 0 ≤ t) (t1 : t < 32) : bit 0 t = 0 := by
  rw [bit_n (by decide) (by decide) t0 t1]; simp
theorem bit_z {x t : Int} (x0 : 0 ≤ x) (x1 : x < 2147483648) (t0 : 0 ≤ t) (t1 : t < 32) : bit x t = 0 ∨ bit x t = 1 := by
  rw [bit_n x0 x1 t0 t1]; split
  · exact Or.inr rfl
  · exact Or.inl rfl
/-- masks of one bit -/
theorem and_pow {x t : Int} (x0 : 0 ≤ x) (x1 : x < 2147483648) (t0 : 0 ≤ t) (t1 : t < 31) : i_and x ((2 ^ t.toNat : Nat) : Int) = 0 ↔ bit x t = 0 := by
  have hp : 2 ^ t.toNat ≤ 2 ^ 30 := Nat.pow_le_pow_right (by omega) (by omega)
  rw [i_and_n x0 x1 (Int.natCast_nonneg _) (by generalize 2 ^ t.toNat = m at *; omega), bit_n x0 x1 t0 (by omega), Int.toNat_natCast]
  cases hb : x.toNat.testBit t.toNat
  · have : x.toNat &&& 2 ^ t.toNat = 0 := by
      apply Nat.eq_of_testBit_eq
      intro i
      rw [Nat.testBit_and, Nat.testBit_two_pow, Nat.zero_testBit]
      by_cases h : t.toNat = i
      · subst h; rw [hb]; rfl
      · rw [decide_eq_false h, Bool.and_false]
    rw [this]; simp
  · have : x.toNat &&& 2 ^ t.toNat ≠ 0 := by
      intro z
      have := congrArg (fun v => Nat.testBit v t.toNat) z
      simp only [Nat.testBit_and, Nat.testBit_two_pow, Nat.zero_testBit, hb] at this
      simp at this
    constructor
    · intro z; exact absurd (by generalize x.toNat &&& 2 ^ t.toNat = m at *; omega) this
    · intro z; simp at z
