/-! numbers: ints and longs of the machine as whole numbers -/
def w32 (x : Int) : Int := (x + 2147483648) % 4294967296 - 2147483648
def w64 (x : Int) : Int := (x + 9223372036854775808) % 18446744073709551616 - 9223372036854775808
def w8 (x : Int) : Int := (x + 128) % 256 - 128
def r32 (x : Int) : Prop := -2147483648 ≤ x ∧ x < 2147483648
def r64 (x : Int) : Prop := -9223372036854775808 ≤ x ∧ x < 9223372036854775808
theorem w32_id {x : Int} (h1 : -2147483648 ≤ x) (h2 : x < 2147483648) : w32 x = x := by unfold w32; omega
theorem w64_id {x : Int} (h1 : -9223372036854775808 ≤ x) (h2 : x < 9223372036854775808) : w64 x = x := by unfold w64; omega
theorem w8_id {x : Int} (h1 : -128 ≤ x) (h2 : x < 128) : w8 x = x := by unfold w8; omega
theorem w32_r (x : Int) : r32 (w32 x) := by unfold w32 r32; omega
theorem w64_r (x : Int) : r64 (w64 x) := by unfold w64 r64; omega
theorem w8_r (x : Int) : r32 (w8 x) := by unfold w8 r32; omega
theorem r32_64 {x : Int} (h : r32 x) : r64 x := by unfold r32 at h; unfold r64; omega
abbrev i32 (x : Int) : Int32 := Int32.ofInt x
abbrev i64 (x : Int) : Int64 := Int64.ofInt x
theorem bmod32 (x : Int) : x.bmod 4294967296 = w32 x := by
  unfold w32; rw [Int.bmod_def]; split <;> omega
theorem bmod64 (x : Int) : x.bmod 18446744073709551616 = w64 x := by
  unfold w64; rw [Int.bmod_def]; split <;> omega
theorem bmod8 (x : Int) : x.bmod 256 = w8 x := by
  unfold w8; rw [Int.bmod_def]; split <;> omega
theorem i32_ti (x : Int) : (i32 x).toInt = w32 x := by
  rw [← bmod32]; exact Int32.toInt_ofInt
theorem i64_ti (x : Int) : (i64 x).toInt = w64 x := by
  rw [← bmod64]; exact Int64.toInt_ofInt
theorem i32_t {x : Int} (h : r32 x) : (i32 x).toInt = x := by rw [i32_ti]; exact w32_id h.1 h.2
theorem i64_t {x : Int} (h : r64 x) : (i64 x).toInt = x := by rw [i64_ti]; exact w64_id h.1 h.2
theorem i32_of (v : Int32) : i32 v.toInt = v := Int32.ofInt_toInt v
theorem i64_of (v : Int64) : i64 v.toInt = v := Int64.ofInt_toInt v
theorem r32_of (v : Int32) : r32 v.toInt := by
  have h := i32_ti v.toInt
  rw [i32_of] at h
  rw [h]; exact w32_r _
theorem r64_of (v : Int64) : r64 v.toInt := by
  have h := i64_ti v.toInt
  rw [i64_of] at h
  rw [h]; exact w64_r _
theorem i32_w (x : Int) : i32 (w32 x) = i32 x := by
  rw [← i32_of (i32 x), i32_ti]
theorem i64_w (x : Int) : i64 (w64 x) = i64 x := by
  rw [← i64_of (i64 x), i64_ti]
theorem i32_inj {a b : Int} (ha : r32 a) (hb : r32 b) : i32 a = i32 b ↔ a = b := by
  constructor
  · intro h; rw [← i32_t ha, h, i32_t hb]
  · intro h; rw [h]
theorem i64_inj {a b : Int} (ha : r64 a) (hb : r64 b) : i64 a = i64 b ↔ a = b := by
  constructor
  · intro h; rw [← i64_t ha, h, i64_t hb]
  · intro h; rw [h]
theorem i32_lt {a b : Int} (ha : r32 a) (hb : r32 b) : i32 a < i32 b ↔ a < b := by
  rw [Int32.lt_iff_toInt_lt, i32_t ha, i32_t hb]
theorem i32_le {a b : Int} (ha : r32 a) (hb : r32 b) : i32 a ≤ i32 b ↔ a ≤ b := by
  rw [Int32.le_iff_toInt_le, i32_t ha, i32_t hb]
theorem i64_lt {a b : Int} (ha : r64 a) (hb : r64 b) : i64 a < i64 b ↔ a < b := by
  rw [Int64.lt_iff_toInt_lt, i64_t ha, i64_t hb]
theorem i32_0 : i32 0 = 0 := by decide
theorem i64_0 : i64 0 = 0 := by decide
theorem r32_0 : r32 0 := by unfold r32; omega
theorem r64_0 : r64 0 := by unfold r64; omega
theorem i32_add (a b : Int) : i32 a + i32 b = i32 (w32 (a + b)) := by rw [i32_w]; exact (Int32.ofInt_add a b).symm
theorem i32_sub (a b : Int) : i32 a - i32 b = i32 (w32 (a - b)) := by rw [i32_w]; exact (Int32.ofInt_sub a b).symm
theorem i32_mul (a b : Int) : i32 a * i32 b = i32 (w32 (a * b)) := by rw [i32_w]; exact (Int32.ofInt_mul a b).symm
theorem i32_neg (a : Int) : - i32 a = i32 (w32 (-a)) := by rw [i32_w]; exact (Int32.ofInt_neg a).symm
theorem i64_add (a b : Int) : i64 a + i64 b = i64 (w64 (a + b)) := by rw [i64_w]; exact (Int64.ofInt_add a b).symm
theorem i64_sub (a b : Int) : i64 a - i64 b = i64 (w64 (a - b)) := by rw [i64_w]; exact (Int64.ofInt_sub a b).symm
theorem i64_mul (a b : Int) : i64 a * i64 b = i64 (w64 (a * b)) := by rw [i64_w]; exact (Int64.ofInt_mul a b).symm
theorem i32_div {a b : Int} (ha : r32 a) (hb : r32 b) : i32 a / i32 b = i32 (w32 (a.tdiv b)) := by
  rw [← i32_of (i32 a / i32 b), Int32.toInt_div, i32_t ha, i32_t hb]
  exact congrArg i32 (bmod32 _)
theorem i64_div {a b : Int} (ha : r64 a) (hb : r64 b) : i64 a / i64 b = i64 (w64 (a.tdiv b)) := by
  rw [← i64_of (i64 a / i64 b), Int64.toInt_div, i64_t ha, i64_t hb]
  exact congrArg i64 (bmod64 _)
theorem i32_rem {a b : Int} (ha : r32 a) (hb : r32 b) : i32 a - i32 a / i32 b * i32 b = i32 (w32 (a.tmod b)) := by
  rw [i32_div ha hb, i32_w, i32_w, ← Int32.ofInt_mul, ← Int32.ofInt_sub]
  congr 1
  have := Int.tdiv_mul_add_tmod a b
  omega
theorem i64_rem {a b : Int} (ha : r64 a) (hb : r64 b) : i64 a - i64 a / i64 b * i64 b = i64 (w64 (a.tmod b)) := by
  rw [i64_div ha hb, i64_w, i64_w, ← Int64.ofInt_mul, ← Int64.ofInt_sub]
  congr 1
  have := Int.tdiv_mul_add_tmod a b
  omega
def i_and (x y : Int) : Int := (i32 x &&& i32 y).toInt
def i_or (x y : Int) : Int := (i32 x ||| i32 y).toInt
def i_xor (x y : Int) : Int := (i32 x ^^^ i32 y).toInt
def i_shl (x y : Int) : Int := (i32 x <<< (i32 y &&& 31)).toInt
def i_shr (x y : Int) : Int := (i32 x >>> (i32 y &&& 31)).toInt
def i_ushr (x y : Int) : Int := ((i32 x).toUInt32 >>> ((i32 y).toUInt32 &&& Int32.toUInt32 31)).toInt32.toInt
def l_and (x y : Int) : Int := (i64 x &&& i64 y).toInt
def l_or (x y : Int) : Int := (i64 x ||| i64 y).toInt
def l_shl (x y : Int) : Int := (i64 x <<< ((i32 y).toInt64 &&& 63)).toInt
def l_shr (x y : Int) : Int := (i64 x >>> ((i32 y).toInt64 &&& 63)).toInt
theorem i32_i2l {x : Int} (h : r32 x) : (i32 x).toInt64 = i64 x := by
  rw [← i64_of (i32 x).toInt64, Int32.toInt_toInt64, i32_t h]
theorem i64_l2i (x : Int) : (i64 x).toInt32 = i32 (w32 x) := by
  rw [i32_w]; exact Int64.toInt32_ofInt
theorem i32_i2b (x : Int) : (i32 x).toInt8.toInt32 = i32 (w8 x) := by
  have h : (i32 x).toInt8 = Int8.ofInt x := Int32.toInt8_ofInt
  rw [h, ← i32_of (Int8.ofInt x).toInt32, Int8.toInt_toInt32]
  exact congrArg i32 (Int8.toInt_ofInt.trans (bmod8 x))
theorem i32_z {x : Int} (h : r32 x) : i32 x = 0 ↔ x = 0 := by rw [← i32_0]; exact i32_inj h r32_0
theorem i64_z {x : Int} (h : r64 x) : i64 x = 0 ↔ x = 0 := by rw [← i64_0]; exact i64_inj h r64_0
def lcmp (x y : Int) : Int := if y < x then 1 else if x = y then 0 else -1
theorem lcmp_r (x y : Int) : r32 (lcmp x y) := by unfold lcmp r32; split <;> (try split) <;> omega
theorem lcmp_cmp {x y : Int} (hx : r64 x) (hy : r64 y) : lg_cmp (i64 x) (i64 y) = i32 (lcmp x y) := by
  unfold lg_cmp lcmp
  simp only [gt_iff_lt, i64_lt hy hx, i64_inj hx hy]
  split
  · rfl
  · split <;> rfl
theorem lcmp_lt (x y : Int) : lcmp x y < 0 ↔ x < y := by unfold lcmp; split <;> (try split) <;> omega
theorem lcmp_le (x y : Int) : lcmp x y ≤ 0 ↔ x ≤ y := by unfold lcmp; split <;> (try split) <;> omega
theorem lcmp_eq (x y : Int) : lcmp x y = 0 ↔ x = y := by unfold lcmp; split <;> (try split) <;> omega
theorem lcmp_gt (x y : Int) : 0 < lcmp x y ↔ y < x := by unfold lcmp; split <;> (try split) <;> omega
theorem lcmp_ge (x y : Int) : 0 ≤ lcmp x y ↔ y ≤ x := by unfold lcmp; split <;> (try split) <;> omega
theorem vp_in_i {x : Int} {n : Nat} (h : r32 x) (h0 : 0 ≤ x) (h1 : x < n) : vp_in (i32 x) n := by
  rw [vp_in_iff, i32_t h]; exact ⟨h0, h1⟩
theorem clamp_i {x : Int} (h : r32 x) : (i32 x).toNatClampNeg = x.toNat := by
  show (i32 x).toInt.toNat = x.toNat
  rw [i32_t h]
