/-! how many bits -/
theorem and8 (s : Nat) (hs : s ≤ 7) {A a M m : Nat} (ha : a < 256) (hm : m < 2 ^ (8 - s)) : ((256 * A + a) >>> s) &&& (256 * M + m) = 256 * ((A >>> s) &&& M) + ((a >>> s) &&& m) := by
  have hm8 : m < 2 ^ 8 := Nat.lt_of_lt_of_le hm (Nat.pow_le_pow_right (by decide) (by omega))
  have hw : ((a >>> s) &&& m) < 2 ^ 8 := Nat.lt_of_le_of_lt Nat.and_le_right hm8
  apply Nat.eq_of_testBit_eq
  intro i
  rw [show (256 : Nat) = 2 ^ 8 from rfl] at *
  rw [Nat.testBit_and, Nat.testBit_shiftRight, Nat.testBit_two_pow_mul_add A ha, Nat.testBit_two_pow_mul_add M hm8, Nat.testBit_two_pow_mul_add _ hw]
  by_cases h8 : i < 8
  · rw [if_pos h8, if_pos h8, Nat.testBit_and, Nat.testBit_shiftRight]
    by_cases hq : s + i < 8
    · rw [if_pos hq]
    · rw [if_neg hq]
      have : m.testBit i = false := Nat.testBit_lt_two_pow (Nat.lt_of_lt_of_le hm (Nat.pow_le_pow_right (by decide) (by omega)))
      rw [this, Bool.and_false, Bool.and_false]
  · rw [if_neg h8, if_neg h8, if_neg (by omega), Nat.testBit_and, Nat.testBit_shiftRight, show s + i - 8 = s + (i - 8) by omega]
def pz (x M : Nat) : Nat := x - ((x >>> 1) &&& M)
def py (z M : Nat) : Nat := (z &&& M) + ((z >>> 2) &&& M)
def pu (y M : Nat) : Nat := (y + (y >>> 4)) &&& M
theorem p8 : ∀ a : Fin 256, (a.val >>> 1 &&& 0x55) ≤ a.val ∧ pz a.val 0x55 < 256 ∧ py (pz a.val 0x55) 0x33 ≤ 68 ∧ py (pz a.val 0x55) 0x33 % 16 ≤ 4 ∧ pu (py (pz a.val 0x55) 0x33) 0x0f ≤ 8 := by decide +kernel
theorem pz_s {X a M : Nat} (ha : a < 256) (hX : (X >>> 1 &&& M) ≤ X) : pz (256 * X + a) (256 * M + 0x55) = 256 * pz X M + pz a 0x55 ∧ ((256 * X + a) >>> 1 &&& (256 * M + 0x55)) ≤ 256 * X + a := by
  have q := (p8 ⟨a, ha⟩).1
  simp only at q
  unfold pz
  rw [and8 1 (by decide) ha (by decide)]
  omega
theorem py_s {Z z M : Nat} (hz : z < 256) : py (256 * Z + z) (256 * M + 0x33) = 256 * py Z M + py z 0x33 := by
  unfold py
  have a := and8 0 (by decide) (A := Z) (M := M) hz (m := 0x33) (by decide)
  simp only [Nat.shiftRight_zero] at a
  rw [a, and8 2 (by decide) hz (by decide)]
  omega
theorem pu_s {Y y M : Nat} (hy : y ≤ 68) (hY : Y % 16 ≤ 4) : pu (256 * Y + y) (256 * M + 0x0f) = 256 * pu Y M + pu y 0x0f := by
  unfold pu
  have e : 256 * Y + y + (256 * Y + y) >>> 4 = 256 * (Y + Y >>> 4) + (y + y >>> 4 + 16 * (Y % 16)) := by
    rw [Nat.shiftRight_eq_div_pow, Nat.shiftRight_eq_div_pow, Nat.shiftRight_eq_div_pow]
    omega
  have hw : y + y >>> 4 + 16 * (Y % 16) < 256 := by
    rw [Nat.shiftRight_eq_div_pow]
    omega
  have a := and8 0 (by decide) (A := Y + Y >>> 4) (M := M) hw (m := 0x0f) (by decide)
  simp only [Nat.shiftRight_zero] at a
  rw [e, a]
  congr 1
  rw [show (0x0f : Nat) = 2 ^ 4 - 1 from rfl, Nat.and_two_pow_sub_one_eq_mod, Nat.and_two_pow_sub_one_eq_mod]
  omega
def pc8 (a : Nat) : Nat := pu (py (pz a 0x55) 0x33) 0x0f
theorem pc8_ok : ∀ a : Fin 256, pc8 a.val = ((List.range 8).filter (fun t => a.val.testBit t)).length := by decide +kernel
theorem swar {a b c d : Nat} (ha : a < 256) (hb : b < 256) (hc : c < 256) (hd : d < 256) : pu (py (pz (256 * (256 * (256 * d + c) + b) + a) 0x55555555) 0x33333333) 0x0f0f0f0f = 256 * (256 * (256 * pc8 d + pc8 c) + pc8 b) + pc8 a := by
  obtain ⟨a1, a2, a3, a4, a5⟩ := p8 ⟨a, ha⟩
  obtain ⟨b1, b2, b3, b4, b5⟩ := p8 ⟨b, hb⟩
  obtain ⟨c1, c2, c3, c4, c5⟩ := p8 ⟨c, hc⟩
  obtain ⟨d1, d2, d3, d4, d5⟩ := p8 ⟨d, hd⟩
  simp only at a1 a2 a3 a4 a5 b1 b2 b3 b4 b5 c1 c2 c3 c4 c5 d1 d2 d3 d4 d5
  obtain ⟨z1, z1'⟩ := pz_s (M := 0x55) hc d1
  obtain ⟨z2, z2'⟩ := pz_s (M := 256 * 0x55 + 0x55) hb z1'
  obtain ⟨z3, z3'⟩ := pz_s (M := 256 * (256 * 0x55 + 0x55) + 0x55) ha z2'
  rw [show (0x55555555 : Nat) = 256 * (256 * (256 * 0x55 + 0x55) + 0x55) + 0x55 from rfl, z3, z2, z1]
  rw [show (0x33333333 : Nat) = 256 * (256 * (256 * 0x33 + 0x33) + 0x33) + 0x33 from rfl, py_s a2, py_s b2, py_s c2]
  rw [show (0x0f0f0f0f : Nat) = 256 * (256 * (256 * 0x0f + 0x0f) + 0x0f) + 0x0f from rfl, pu_s a3 (by omega), pu_s b3 (by omega), pu_s c3 (by omega)]
  rfl
theorem i_ushr_n {x t : Int} (x0 : 0 ≤ x) (x1 : x < 2147483648) (t0 : 0 ≤ t) (t1 : t < 32) : i_ushr x t = ((x.toNat >>> t.toNat : Nat) : Int) := by
  unfold i_ushr
  apply of_bv32
  · show (((i32 x).toUInt32 >>> ((i32 t).toUInt32 &&& Int32.toUInt32 31)).toBitVec).toNat = _
    have : ∀ k : Fin 32, ((((i32 (k.val : Int)).toUInt32 &&& Int32.toUInt32 31).toBitVec % 32#32).toNat) = k.val := by decide +kernel
    have := this ⟨t.toNat, by omega⟩
    simp only at this
    rw [show ((t.toNat : Nat) : Int) = t by omega] at this
    rw [UInt32.toBitVec_shiftRight, BitVec.ushiftRight_eq', BitVec.toNat_ushiftRight]
    show (i32 x).toBitVec.toNat >>> _ = _
    rw [bv32 x0 (by omega)]
    congr 1
  · exact Nat.lt_of_le_of_lt (Nat.shiftRight_le _ _) (by omega)
/-- the letters of a set, in order -/
def bitsN (v : Nat) : List Nat := (List.range 26).filter (fun t => v.testBit t)
theorem filt_len {p : Nat → Bool} {m n : Nat} : ((List.range (m + n)).filter p).length = ((List.range m).filter p).length + ((List.range n).filter (fun t => p (m + t))).length := by
  rw [List.range_add, List.filter_append, List.length_append]
  congr 1
  rw [List.filter_map, List.length_map]
  rfl
theorem bitCount_ok {x : Int} (x0 : 0 ≤ x) (x1 : x < 67108864) : JI_bitCount x = some (((bitsN x.toNat).length : Nat) : Int) := by
  have hX : ∃ X : Nat, X = x.toNat := ⟨_, rfl⟩
  obtain ⟨X, eX⟩ := hX
  have hx : x = (X : Int) := by omega
  have hb : X < 67108864 := by omega
  have dec : X = 256 * (256 * (256 * (X / 16777216) + X / 65536 % 256) + X / 256 % 256) + X % 256 := by omega
  have h0 : X % 256 < 256 := by omega
  have h1 : X / 256 % 256 < 256 := by omega
  have h2 : X / 65536 % 256 < 256 := by omega
  have h3 : X / 16777216 < 256 := by omega
  have sw := swar h0 h1 h2 h3
  rw [← dec] at sw
  have c0 : pc8 (X % 256) ≤ 8 := (p8 ⟨_, h0⟩).2.2.2.2
  have c1 : pc8 (X / 256 % 256) ≤ 8 := (p8 ⟨_, h1⟩).2.2.2.2
  have c2 : pc8 (X / 65536 % 256) ≤ 8 := (p8 ⟨_, h2⟩).2.2.2.2
  have c3 : pc8 (X / 16777216) ≤ 8 := (p8 ⟨_, h3⟩).2.2.2.2
  have z1 : (X >>> 1 &&& 0x55555555) ≤ X := Nat.le_trans Nat.and_le_left (Nat.shiftRight_le _ _)
  have zle : pz X 0x55555555 ≤ X := Nat.sub_le _ _
  have a1 := Nat.and_le_left (n := pz X 0x55555555) (m := 0x33333333)
  have a2 := Nat.le_trans (Nat.and_le_left (n := pz X 0x55555555 >>> 2) (m := 0x33333333)) (Nat.shiftRight_le (pz X 0x55555555) 2)
  have yle : py (pz X 0x55555555) 0x33333333 ≤ 2 * X := by unfold py; omega
  have u1 := Nat.shiftRight_le (py (pz X 0x55555555) 0x33333333) 4
  have len : (bitsN X).length = pc8 (X % 256) + pc8 (X / 256 % 256) + pc8 (X / 65536 % 256) + pc8 (X / 16777216) := by
    have k0 := pc8_ok ⟨_, h0⟩
    have k1 := pc8_ok ⟨_, h1⟩
    have k2 := pc8_ok ⟨_, h2⟩
    have k3 := pc8_ok ⟨_, h3⟩
    simp only at k0 k1 k2 k3
    rw [k0, k1, k2, k3]
    have t32 : (bitsN X).length = ((List.range 32).filter (fun t => X.testBit t)).length := by
      rw [show 32 = 26 + 6 from rfl, filt_len]
      have : (List.range 6).filter (fun t => X.testBit (26 + t)) = [] := by
        rw [List.filter_eq_nil_iff]
        intro t ht
        rw [Nat.testBit_lt_two_pow (Nat.lt_of_lt_of_le (show X < 2 ^ 26 from hb) (Nat.pow_le_pow_right (by decide) (by omega)))]
        decide
      rw [this]
      rfl
    rw [t32, show 32 = 8 + 24 from rfl, filt_len, show 24 = 8 + 16 from rfl, filt_len, show 16 = 8 + 8 from rfl, filt_len]
    have e0 : ∀ t, t < 8 → X.testBit t = (X % 256).testBit t := fun t ht => by
      rw [show (256 : Nat) = 2 ^ 8 from rfl, Nat.testBit_mod_two_pow]; simp [ht]
    have ek : ∀ (k t : Nat), t < 8 → X.testBit (k + t) = (X / 2 ^ k % 256).testBit t := fun k t ht => by
      rw [show (256 : Nat) = 2 ^ 8 from rfl, Nat.testBit_mod_two_pow, ← Nat.shiftRight_eq_div_pow, Nat.testBit_shiftRight]; simp [ht]
    have f0 : (List.range 8).filter (fun t => X.testBit t) = (List.range 8).filter (fun t => (X % 256).testBit t) := List.filter_congr (fun t ht => e0 t (List.mem_range.mp ht))
    have f1 : (List.range 8).filter (fun t => X.testBit (8 + t)) = (List.range 8).filter (fun t => (X / 256 % 256).testBit t) := List.filter_congr (fun t ht => ek 8 t (List.mem_range.mp ht))
    have f2 : (List.range 8).filter (fun t => X.testBit (8 + (8 + t))) = (List.range 8).filter (fun t => (X / 65536 % 256).testBit t) := List.filter_congr (fun t ht => by
      have := ek 16 t (List.mem_range.mp ht)
      rwa [show 8 + (8 + t) = 16 + t by omega])
    have f3 : (List.range 8).filter (fun t => X.testBit (8 + (8 + (8 + t)))) = (List.range 8).filter (fun t => (X / 16777216).testBit t) := List.filter_congr (fun t ht => by
      have := ek 24 t (List.mem_range.mp ht)
      rw [show (2 : Nat) ^ 24 = 16777216 from rfl, show X / 16777216 % 256 = X / 16777216 by omega] at this
      rwa [show 8 + (8 + (8 + t)) = 24 + t by omega])
    rw [f0, f1, f2, f3]
    omega
  subst hx
  rw [show ((X : Int)).toNat = X from Int.toNat_natCast X, len]
  have ez : w32 ((X : Int) - i_and (i_ushr (X : Int) 1) 1431655765) = ((pz X 0x55555555 : Nat) : Int) := by
    have q1 := Nat.shiftRight_le X 1
    rw [i_ushr_n (by omega) (by omega) (by decide) (by decide), i_and_n (Int.natCast_nonneg _) (by simp only [Int.toNat_natCast]; show ((X >>> 1 : Nat) : Int) < _; omega) (by decide) (by decide)]
    simp only [Int.toNat_natCast]
    show w32 ((X : Int) - ((X >>> 1 &&& 0x55555555 : Nat) : Int)) = _
    unfold pz w32
    omega
  have ey : w32 (i_and ((pz X 0x55555555 : Nat) : Int) 858993459 + i_and (i_ushr ((pz X 0x55555555 : Nat) : Int) 2) 858993459) = ((py (pz X 0x55555555) 0x33333333 : Nat) : Int) := by
    generalize hz : pz X 0x55555555 = Z at *
    have q2 := Nat.shiftRight_le Z 2
    rw [i_ushr_n (by omega) (by omega) (by decide) (by decide), i_and_n (by omega) (by omega) (by decide) (by decide), i_and_n (Int.natCast_nonneg _) (by simp only [Int.toNat_natCast]; show ((Z >>> 2 : Nat) : Int) < _; omega) (by decide) (by decide)]
    simp only [Int.toNat_natCast]
    show w32 (((Z &&& 0x33333333 : Nat) : Int) + ((Z >>> 2 &&& 0x33333333 : Nat) : Int)) = _
    unfold py at yle ⊢
    unfold w32
    omega
  have eu : i_and (w32 (((py (pz X 0x55555555) 0x33333333 : Nat) : Int) + i_ushr ((py (pz X 0x55555555) 0x33333333 : Nat) : Int) 4)) 252645135 = ((pu (py (pz X 0x55555555) 0x33333333) 0x0f0f0f0f : Nat) : Int) := by
    generalize hy : py (pz X 0x55555555) 0x33333333 = Y at *
    rw [i_ushr_n (by omega) (by omega) (by decide) (by decide)]
    simp only [Int.toNat_natCast]
    show i_and (w32 ((Y : Int) + ((Y >>> 4 : Nat) : Int))) 252645135 = _
    rw [show w32 ((Y : Int) + ((Y >>> 4 : Nat) : Int)) = ((Y + Y >>> 4 : Nat) : Int) by unfold w32; omega, i_and_n (Int.natCast_nonneg _) (by omega) (by decide) (by decide)]
    simp only [Int.toNat_natCast]
    rfl
  unfold JI_bitCount
  rw [ez, ey, eu, sw]
  generalize pc8 (X % 256) = p0 at *
  generalize pc8 (X / 256 % 256) = p1 at *
  generalize pc8 (X / 65536 % 256) = p2 at *
  generalize pc8 (X / 16777216) = p3 at *
  have b0 : p0 ≤ 8 := c0
  have b1 : p1 ≤ 8 := c1
  have b2 : p2 ≤ 8 := c2
  congr 1
  have n1 : 256 * (256 * (256 * p3 + p2) + p1) + p0 < 2147483648 := by omega
  rw [i_ushr_n (x := ((256 * (256 * (256 * p3 + p2) + p1) + p0 : Nat) : Int)) (t := 8) (by omega) (by omega) (by decide) (by decide)]
  simp only [Int.toNat_natCast]
  rw [show (8 : Int).toNat = 8 from rfl, show (256 * (256 * (256 * p3 + p2) + p1) + p0) >>> 8 = 256 * (256 * p3 + p2) + p1 by rw [Nat.shiftRight_eq_div_pow]; omega]
  rw [show w32 (((256 * (256 * (256 * p3 + p2) + p1) + p0 : Nat) : Int) + ((256 * (256 * p3 + p2) + p1 : Nat) : Int)) = ((256 * (256 * (256 * p3 + (p2 + p3)) + (p1 + p2)) + (p0 + p1) : Nat) : Int) by unfold w32; omega]
  rw [i_ushr_n (by omega) (by omega) (by decide) (by decide)]
  simp only [Int.toNat_natCast]
  rw [show (16 : Int).toNat = 16 from rfl, show (256 * (256 * (256 * p3 + (p2 + p3)) + (p1 + p2)) + (p0 + p1)) >>> 16 = 256 * p3 + (p2 + p3) by rw [Nat.shiftRight_eq_div_pow]; omega]
  rw [show w32 (((256 * (256 * (256 * p3 + (p2 + p3)) + (p1 + p2)) + (p0 + p1) : Nat) : Int) + ((256 * p3 + (p2 + p3) : Nat) : Int)) = ((256 * (256 * (256 * p3 + (p2 + p3)) + (p1 + p2) + p3) + (p0 + p1 + p2 + p3) : Nat) : Int) by unfold w32; omega]
  rw [i_and_n (by omega) (by omega) (by decide) (by decide)]
  simp only [Int.toNat_natCast]
  rw [show (63 : Int).toNat = 2 ^ 6 - 1 from rfl, Nat.and_two_pow_sub_one_eq_mod]
  omega
