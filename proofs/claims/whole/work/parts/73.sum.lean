/-! the class: trees and numbers of steps of all ways, packed -/
def f0 (x : Int) : Int := w32 (l_and x 255)
def f1 (x : Int) : Int := w32 (l_and (l_shr x 8) 255)
def f2 (x : Int) : Int := w32 (l_and (l_shr x 16) 255)
def f3 (x : Int) : Int := w32 (l_and (l_shr x 24) 255)
def sPk (a b c d : Int) : Int := l_or (l_or (l_or (l_or 4294967296 a) (l_shl b 8)) (l_shl c 16)) (l_shl d 24)
def pk (a b c d : Int) : Int := 4294967296 + a + 256 * b + 65536 * c + 16777216 * d
theorem bv64 {x : Int} (h0 : 0 ≤ x) (h1 : x < 18446744073709551616) : (i64 x).toBitVec.toNat = x.toNat := by
  show (BitVec.ofInt 64 x).toNat = x.toNat
  rw [BitVec.toNat_ofInt]
  omega
theorem of_bv64 {v : Int64} {n : Nat} (h : v.toBitVec.toNat = n) (hn : n < 9223372036854775808) : v.toInt = n := by
  show v.toBitVec.toInt = n
  rw [BitVec.toInt_eq_toNat_cond, h, if_pos (by omega)]
theorem l_and_n {x y : Int} (x0 : 0 ≤ x) (x1 : x < 9223372036854775808) (y0 : 0 ≤ y) (y1 : y < 9223372036854775808) : l_and x y = ((x.toNat &&& y.toNat : Nat) : Int) := by
  unfold l_and
  apply of_bv64
  · rw [Int64.toBitVec_and, BitVec.toNat_and, bv64 x0 (by omega), bv64 y0 (by omega)]
  · exact Nat.lt_of_le_of_lt Nat.and_le_left (by omega)
theorem l_or_n {x y : Int} (x0 : 0 ≤ x) (x1 : x < 9223372036854775808) (y0 : 0 ≤ y) (y1 : y < 9223372036854775808) : l_or x y = ((x.toNat ||| y.toNat : Nat) : Int) := by
  unfold l_or
  apply of_bv64
  · rw [Int64.toBitVec_or, BitVec.toNat_or, bv64 x0 (by omega), bv64 y0 (by omega)]
  · exact Nat.or_lt_two_pow (n := 63) (by omega) (by omega)
theorem l_shr_n {x t : Int} (x0 : 0 ≤ x) (x1 : x < 9223372036854775808) (t0 : 0 ≤ t) (t1 : t < 64) : l_shr x t = ((x.toNat >>> t.toNat : Nat) : Int) := by
  unfold l_shr
  apply of_bv64
  · rw [Int64.toBitVec_shiftRight]
    have hm : (i64 x).toBitVec.msb = false := by
      rw [BitVec.msb_eq_false_iff_two_mul_lt, bv64 x0 (by omega)]; omega
    show ((i64 x).toBitVec.sshiftRight' _).toNat = _
    unfold BitVec.sshiftRight'
    rw [BitVec.sshiftRight_eq_of_msb_false hm, BitVec.toNat_ushiftRight, bv64 x0 (by omega), sh63 t0 t1]
  · exact Nat.lt_of_le_of_lt (Nat.shiftRight_le _ _) (by omega)
theorem byte_in (z : Int) : 0 ≤ l_and z 255 ∧ l_and z 255 < 256 := by
  have hn : (i64 z &&& i64 255).toBitVec.toNat ≤ 255 := by
    rw [Int64.toBitVec_and, BitVec.toNat_and]
    exact Nat.le_trans Nat.and_le_right (by decide)
  have := of_bv64 (v := i64 z &&& i64 255) rfl (by omega)
  unfold l_and
  omega
theorem f0_in (x : Int) : 0 ≤ f0 x ∧ f0 x < 256 := by
  have := byte_in x
  unfold f0; rw [w32_id (by omega) (by omega)]; exact this
theorem f1_in (x : Int) : 0 ≤ f1 x ∧ f1 x < 256 := by
  have := byte_in (l_shr x 8)
  unfold f1; rw [w32_id (by omega) (by omega)]; exact this
theorem f2_in (x : Int) : 0 ≤ f2 x ∧ f2 x < 256 := by
  have := byte_in (l_shr x 16)
  unfold f2; rw [w32_id (by omega) (by omega)]; exact this
theorem f3_in (x : Int) : 0 ≤ f3 x ∧ f3 x < 256 := by
  have := byte_in (l_shr x 24)
  unfold f3; rw [w32_id (by omega) (by omega)]; exact this
theorem and255_64 {x : Int} (x0 : 0 ≤ x) (x1 : x < 9223372036854775808) : l_and x 255 = x % 256 := by
  rw [l_and_n x0 x1 (by decide) (by decide), show (255 : Int).toNat = 2 ^ 8 - 1 from rfl, Nat.and_two_pow_sub_one_eq_mod]
  omega
theorem fld {a b c d : Int} (a0 : 0 ≤ a) (a1 : a < 256) (b0 : 0 ≤ b) (b1 : b < 256) (c0 : 0 ≤ c) (c1 : c < 256) (d0 : 0 ≤ d) (d1 : d < 256) : f0 (pk a b c d) = a ∧ f1 (pk a b c d) = b ∧ f2 (pk a b c d) = c ∧ f3 (pk a b c d) = d := by
  have x0 : 0 ≤ pk a b c d := by unfold pk; omega
  have x1 : pk a b c d < 9223372036854775808 := by unfold pk; omega
  unfold f0 f1 f2 f3
  refine ⟨?_, ?_, ?_, ?_⟩
  · rw [and255_64 x0 x1]
    unfold pk w32
    omega
  · rw [l_shr_n x0 x1 (by decide) (by decide), show (8 : Int).toNat = 8 from rfl, Nat.shiftRight_eq_div_pow, and255_64 (Int.natCast_nonneg _) (by have := Nat.div_le_self (pk a b c d).toNat (2 ^ 8); omega)]
    unfold pk w32
    omega
  · rw [l_shr_n x0 x1 (by decide) (by decide), show (16 : Int).toNat = 16 from rfl, Nat.shiftRight_eq_div_pow, and255_64 (Int.natCast_nonneg _) (by have := Nat.div_le_self (pk a b c d).toNat (2 ^ 16); omega)]
    unfold pk w32
    omega
  · rw [l_shr_n x0 x1 (by decide) (by decide), show (24 : Int).toNat = 24 from rfl, Nat.shiftRight_eq_div_pow, and255_64 (Int.natCast_nonneg _) (by have := Nat.div_le_self (pk a b c d).toNat (2 ^ 24); omega)]
    unfold pk w32
    omega
theorem shl_b : ∀ b : Fin 256, l_shl ((b.val : Nat) : Int) 8 = 256 * ((b.val : Nat) : Int) ∧ l_shl ((b.val : Nat) : Int) 16 = 65536 * ((b.val : Nat) : Int) ∧ l_shl ((b.val : Nat) : Int) 24 = 16777216 * ((b.val : Nat) : Int) := by decide +kernel
theorem shl_by {b : Int} (b0 : 0 ≤ b) (b1 : b < 256) : l_shl b 8 = 256 * b ∧ l_shl b 16 = 65536 * b ∧ l_shl b 24 = 16777216 * b := by
  have := shl_b ⟨b.toNat, by omega⟩
  simp only at this
  rwa [show ((b.toNat : Nat) : Int) = b by omega] at this
theorem sPk_ok {a b c d : Int} (a0 : 0 ≤ a) (a1 : a < 256) (b0 : 0 ≤ b) (b1 : b < 256) (c0 : 0 ≤ c) (c1 : c < 256) (d0 : 0 ≤ d) (d1 : d < 256) : sPk a b c d = pk a b c d := by
  obtain ⟨A, rfl⟩ : ∃ A : Nat, a = A := ⟨a.toNat, by omega⟩
  obtain ⟨B, rfl⟩ : ∃ B : Nat, b = B := ⟨b.toNat, by omega⟩
  obtain ⟨C, rfl⟩ : ∃ C : Nat, c = C := ⟨c.toNat, by omega⟩
  obtain ⟨D, rfl⟩ : ∃ D : Nat, d = D := ⟨d.toNat, by omega⟩
  have e1 := Nat.two_pow_add_eq_or_of_lt (i := 8) (b := A) (by omega) B
  have e2 := Nat.two_pow_add_eq_or_of_lt (i := 16) (b := 2 ^ 8 * B + A) (by omega) C
  have e3 := Nat.two_pow_add_eq_or_of_lt (i := 24) (b := 2 ^ 16 * C + (2 ^ 8 * B + A)) (by omega) D
  have e4 := Nat.two_pow_add_eq_or_of_lt (i := 32) (b := 2 ^ 24 * D + (2 ^ 16 * C + (2 ^ 8 * B + A))) (by omega) 1
  have o1 : 4294967296 ||| A = 2 ^ 32 * 1 + A := (Nat.two_pow_add_eq_or_of_lt (i := 32) (b := A) (by omega) 1).symm
  have key : ((4294967296 ||| A) ||| 256 * B) ||| 65536 * C ||| 16777216 * D = 4294967296 + A + 256 * B + 65536 * C + 16777216 * D := by
    have : ((4294967296 ||| A) ||| 256 * B) ||| 65536 * C ||| 16777216 * D = 2 ^ 32 * 1 ||| (2 ^ 24 * D ||| (2 ^ 16 * C ||| (2 ^ 8 * B ||| A))) := by
      rw [show (4294967296 : Nat) = 2 ^ 32 * 1 from rfl, show (256 : Nat) = 2 ^ 8 from rfl, show (65536 : Nat) = 2 ^ 16 from rfl, show (16777216 : Nat) = 2 ^ 24 from rfl]
      ac_rfl
    rw [this, ← e1, ← e2, ← e3, ← e4]
    omega
  have l1 : 4294967296 ||| A < 2 ^ 33 := Nat.or_lt_two_pow (by decide) (by omega)
  have l2 : (4294967296 ||| A) ||| 256 * B < 2 ^ 33 := Nat.or_lt_two_pow l1 (by omega)
  have l3 : ((4294967296 ||| A) ||| 256 * B) ||| 65536 * C < 2 ^ 33 := Nat.or_lt_two_pow l2 (by omega)
  unfold sPk
  rw [(shl_by b0 b1).1, (shl_by c0 c1).2.1, (shl_by d0 d1).2.2]
  rw [l_or_n (by decide) (by decide) a0 (by omega)]
  rw [show ((4294967296 : Int).toNat ||| ((A : Nat) : Int).toNat) = 4294967296 ||| A by rw [Int.toNat_natCast]; rfl]
  rw [l_or_n (Int.natCast_nonneg _) (by omega) (by omega) (by omega), Int.toNat_natCast, show (256 * (B : Int)).toNat = 256 * B by omega]
  rw [l_or_n (Int.natCast_nonneg _) (by omega) (by omega) (by omega), Int.toNat_natCast, show (65536 * (C : Int)).toNat = 65536 * C by omega]
  rw [l_or_n (Int.natCast_nonneg _) (by omega) (by omega) (by omega), Int.toNat_natCast, show (16777216 * (D : Int)).toNat = 16777216 * D by omega, key]
  unfold pk
  omega
theorem orb_in {x y : Int} (x0 : 0 ≤ x) (x1 : x < 256) (y0 : 0 ≤ y) (y1 : y < 256) : 0 ≤ i_or x y ∧ i_or x y < 256 := by
  rw [i_or_n x0 (by omega) y0 (by omega)]
  have := Nat.or_lt_two_pow (n := 8) (x := x.toNat) (y := y.toNat) (by omega) (by omega)
  omega
theorem andb_in {x y : Int} (x0 : 0 ≤ x) (x1 : x < 256) (y0 : 0 ≤ y) (y1 : y < 256) : 0 ≤ i_and x y ∧ i_and x y < 256 := by
  rw [i_and_n x0 (by omega) y0 (by omega)]
  have := Nat.and_le_left (n := x.toNat) (m := y.toNat)
  omega
def sE (x y : Int) : Int := if x = 0 ∨ y = 0 then l_or x y else sPk (i_or (f0 x) (f0 y)) (i_and (f1 x) (f1 y)) (min (f2 x) (f2 y)) (max (f3 x) (f3 y))
def sBt (x y : Int) : Int := if x = 0 ∨ y = 0 then 0 else sPk (i_or (f0 x) (f0 y)) (i_or (f1 x) (f1 y)) (w32 (f2 x + f2 y)) (w32 (f3 x + f3 y))
def sP' (t x : Int) : Int := if x = 0 then 0 else w64 (l_or (l_or x (l_shl 1 t)) (l_shl 1 (w32 (t + 8))) + 16842752)
def agS (lt : Int → Int) : Ag := fun k x y => if k = 0 then sE x y else if k = 1 then sBt x y else if k = 2 then sP' x y else if k = 3 then (if lt x = y then 4294967296 else 0) else 4294967296
theorem sE_pk {x y : Int} (hx : x ≠ 0) (hy : y ≠ 0) : sE x y = pk (i_or (f0 x) (f0 y)) (i_and (f1 x) (f1 y)) (min (f2 x) (f2 y)) (max (f3 x) (f3 y)) := by
  unfold sE
  rw [if_neg (fun z => z.elim hx hy)]
  have a := f0_in x
  have b := f0_in y
  have c := f1_in x
  have d := f1_in y
  have e := f2_in x
  have f := f2_in y
  have g := f3_in x
  have k := f3_in y
  have o := orb_in a.1 a.2 b.1 b.2
  have p := andb_in c.1 c.2 d.1 d.2
  exact sPk_ok o.1 o.2 p.1 p.2 (by omega) (by omega) (by omega) (by omega)
theorem sE_fld {x y : Int} (hx : x ≠ 0) (hy : y ≠ 0) : sE x y ≠ 0 ∧ f0 (sE x y) = i_or (f0 x) (f0 y) ∧ f1 (sE x y) = i_and (f1 x) (f1 y) ∧ f2 (sE x y) = min (f2 x) (f2 y) ∧ f3 (sE x y) = max (f3 x) (f3 y) := by
  have a := f0_in x
  have b := f0_in y
  have c := f1_in x
  have d := f1_in y
  have e := f2_in x
  have f := f2_in y
  have g := f3_in x
  have k := f3_in y
  have o := orb_in a.1 a.2 b.1 b.2
  have p := andb_in c.1 c.2 d.1 d.2
  rw [sE_pk hx hy]
  have q := fld o.1 o.2 p.1 p.2 (show 0 ≤ min (f2 x) (f2 y) by omega) (by omega) (show 0 ≤ max (f3 x) (f3 y) by omega) (by omega)
  exact ⟨by unfold pk; omega, q⟩
theorem l_or_r0 {x : Int} (hx : r64 x) : l_or x 0 = x := by
  unfold l_or
  rw [show i64 0 = 0 by decide, Int64.or_zero]
  exact i64_t hx
theorem l_or_l0 {x : Int} (hx : r64 x) : l_or 0 x = x := by
  unfold l_or
  rw [show i64 0 = 0 by decide, Int64.zero_or]
  exact i64_t hx
theorem i_or_c (x y : Int) : i_or x y = i_or y x := by unfold i_or; rw [Int32.or_comm]
theorem i_and_c (x y : Int) : i_and x y = i_and y x := by unfold i_and; rw [Int32.and_comm]
theorem i_or_a (x y z : Int) : i_or (i_or x y) z = i_or x (i_or y z) := by unfold i_or; rw [i32_of, i32_of, Int32.or_assoc]
theorem i_and_a (x y z : Int) : i_and (i_and x y) z = i_and x (i_and y z) := by unfold i_and; rw [i32_of, i32_of, Int32.and_assoc]
theorem sE_r {x y : Int} : r64 (sE x y) := by
  unfold sE sPk
  split
  · exact r64_of _
  · exact r64_of _
theorem agS_law (lt : Int → Int) : AgL (agS lt) r64 := by
  refine ⟨r64_0, by show r64 4294967296; unfold r64; omega, ?_, ?_, ?_, ?_, ?_, ?_, ?_, ?_⟩
  · intro i l _ _ _ _
    show r64 (if lt i = l then 4294967296 else 0)
    split
    · unfold r64; omega
    · exact r64_0
  · intro x y _ _
    refine ⟨sE_r, ?_⟩
    show r64 (sBt x y)
    unfold sBt sPk
    split
    · exact r64_0
    · exact r64_of _
  · intro t x _ _ _
    show r64 (sP' t x)
    unfold sP'
    split
    · exact r64_0
    · exact w64_r _
  · intro x y hx hy
    show sE x y = sE y x
    by_cases h0 : x = 0
    · subst h0
      unfold sE; rw [if_pos (Or.inl rfl), if_pos (Or.inr rfl), l_or_l0 hy, l_or_r0 hy]
    by_cases h1 : y = 0
    · subst h1
      unfold sE; rw [if_pos (Or.inr rfl), if_pos (Or.inl rfl), l_or_l0 hx, l_or_r0 hx]
    rw [sE_pk h0 h1, sE_pk h1 h0, i_or_c, i_and_c, Int.min_comm, Int.max_comm]
  · intro x y z hx hy hz
    show sE (sE x y) z = sE x (sE y z)
    have r0 : ∀ w, r64 w → sE w 0 = w := fun w hw => by unfold sE; rw [if_pos (Or.inr rfl), l_or_r0 hw]
    have l0 : ∀ w, r64 w → sE 0 w = w := fun w hw => by unfold sE; rw [if_pos (Or.inl rfl), l_or_l0 hw]
    by_cases h0 : x = 0
    · subst h0; rw [l0 y hy, l0 _ sE_r]
    by_cases h1 : y = 0
    · subst h1; rw [r0 x hx, l0 z hz]
    by_cases h2 : z = 0
    · subst h2; rw [r0 y hy, r0 _ sE_r]
    obtain ⟨a1, a2, a3, a4, a5⟩ := sE_fld h0 h1
    obtain ⟨b1, b2, b3, b4, b5⟩ := sE_fld h1 h2
    rw [sE_pk a1 h2, sE_pk h0 b1, a2, a3, a4, a5, b2, b3, b4, b5, i_or_a, i_and_a, Int.min_assoc, Int.max_assoc]
  · intro x hx
    show sE x 0 = x
    unfold sE; rw [if_pos (Or.inr rfl), l_or_r0 hx]
  · intro x _
    refine ⟨?_, ?_⟩
    · show sBt x 0 = 0
      unfold sBt; rw [if_pos (Or.inr rfl)]
    · show sBt 0 x = 0
      unfold sBt; rw [if_pos (Or.inl rfl)]
  · intro t _ _
    show sP' t 0 = 0
    unfold sP'; rw [if_pos rfl]
theorem agS_R {h : Hp} {o n : Int} {row : Int → Int} (X : LetX h n row) (h17 : h 17 0 = 5) (e3 : h o 3 = 17) (e1 : h o 1 ≤ n) : AgR h o (agS row) r64 := by
  have k17 : kK 17 = 7 := by decide
  have n2 : ¬ kK 17 = 2 := by decide
  have k5 : kK 5 = 0 := by decide
  unfold AgR
  rw [e3]
  refine ⟨?_, ?_, ?_, ?_⟩
  · intro x y hx hy
    unfold Al_either Al_both
    rw [if_neg n2, if_pos k17, if_neg n2, if_pos k17]
    refine ⟨?_, ?_⟩
    · show Su_either 17 x y = some (sE x y)
      unfold Su_either Su_either_j12 sE
      by_cases h0 : x = 0
      · rw [if_pos h0, if_pos (Or.inl h0)]
      rw [if_neg h0]
      by_cases h1 : y = 0
      · rw [if_pos h1, if_pos (Or.inr h1)]
      rw [if_neg h1, if_neg (fun z => z.elim h0 h1)]
      rfl
    · show Su_both 17 x y = some (sBt x y)
      unfold Su_both sBt
      by_cases h0 : x = 0
      · rw [if_pos h0, if_pos (Or.inl h0)]
      rw [if_neg h0]
      by_cases h1 : y = 0
      · rw [if_pos h1, if_pos (Or.inr h1)]
      rw [if_neg h1, if_neg (fun z => z.elim h0 h1)]
      rfl
  · intro t x _ _ _
    unfold Al_placed
    rw [if_neg n2, if_pos k17]; rfl
  · intro i l i0 i1 l0 l1
    unfold Al_letterAt Su_letterAt
    rw [if_neg n2, if_pos k17, if_pos k17, h17, if_pos k5, By_at_let X i0 (by omega), ob_some]
    rfl
  · unfold Al_one
    rw [if_neg n2, if_pos k17]; rfl
