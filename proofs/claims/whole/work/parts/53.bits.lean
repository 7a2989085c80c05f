/-! bits of eight trees -/
def bB (x t : Nat) : Bool := (i32 (x : Int)).toBitVec.getLsbD t
theorem bit_B0 : ∀ x : Fin 256, ∀ t : Fin 8, bit ((x.val : Nat) : Int) ((t.val : Nat) : Int) = if bB x.val t.val then 1 else 0 := by decide +kernel
theorem bit_hi0 : ∀ x : Fin 256, ∀ t : Fin 32, 8 ≤ t.val → bB x.val t.val = false := by decide +kernel
theorem bit_B {x t : Int} (x0 : 0 ≤ x) (x1 : x < 256) (t0 : 0 ≤ t) (t1 : t < 8) : bit x t = if bB x.toNat t.toNat then 1 else 0 := by
  have := bit_B0 ⟨x.toNat, by omega⟩ ⟨t.toNat, by omega⟩
  simp only at this
  rwa [show ((x.toNat : Nat) : Int) = x by omega, show ((t.toNat : Nat) : Int) = t by omega] at this
theorem bit_01 {x t : Int} (x0 : 0 ≤ x) (x1 : x < 256) (t0 : 0 ≤ t) (t1 : t < 8) : bit x t = 0 ∨ bit x t = 1 := by
  rw [bit_B x0 x1 t0 t1]; split
  · exact Or.inr rfl
  · exact Or.inl rfl
theorem andnot {x y : Int} (x0 : 0 ≤ x) (x1 : x < 256) (y0 : 0 ≤ y) (y1 : y < 256) : i_and x (i_xor y (-1)) = 0 ↔ ∀ t, 0 ≤ t → t < 8 → bit x t = 1 → bit y t = 1 := by
  have e1 : i_and x (i_xor y (-1)) = 0 ↔ (i32 x).toBitVec &&& ((i32 y).toBitVec ^^^ BitVec.allOnes 32) = 0#32 := by
    unfold i_and i_xor
    rw [i32_of, show (0 : Int) = Int32.toInt 0 from rfl, Int32.toInt_inj, ← Int32.toBitVec_inj]
    rfl
  rw [e1]
  constructor
  · intro hz t t0 t1 hb
    have hk := congrArg (fun v => BitVec.getLsbD v t.toNat) hz
    simp only [BitVec.getLsbD_and, BitVec.getLsbD_xor, BitVec.getLsbD_allOnes, BitVec.getLsbD_zero] at hk
    rw [bit_B x0 x1 t0 t1] at hb
    rw [bit_B y0 y1 t0 t1]
    unfold bB at hb ⊢
    rw [show ((x.toNat : Nat) : Int) = x by omega] at hb
    rw [show ((y.toNat : Nat) : Int) = y by omega]
    have ht : decide (t.toNat < 32) = true := by simp; omega
    rw [ht] at hk
    cases hx : (i32 x).toBitVec.getLsbD t.toNat
    · rw [hx] at hb; simp at hb
    · cases hy : (i32 y).toBitVec.getLsbD t.toNat
      · rw [hx, hy] at hk; simp at hk
      · rfl
  · intro hall
    apply BitVec.eq_of_getLsbD_eq
    intro k hk
    simp only [BitVec.getLsbD_and, BitVec.getLsbD_xor, BitVec.getLsbD_allOnes, BitVec.getLsbD_zero]
    have hx8 : 8 ≤ k → (i32 x).toBitVec.getLsbD k = false := fun h8 => by
      have := bit_hi0 ⟨x.toNat, by omega⟩ ⟨k, hk⟩ h8
      unfold bB at this
      simp only at this
      rwa [show ((x.toNat : Nat) : Int) = x by omega] at this
    by_cases h8 : 8 ≤ k
    · rw [hx8 h8]; rfl
    · have h := hall k (by omega) (by omega)
      rw [bit_B x0 x1 (by omega) (by omega), bit_B y0 y1 (by omega) (by omega)] at h
      unfold bB at h
      rw [show ((x.toNat : Nat) : Int) = x by omega, show ((y.toNat : Nat) : Int) = y by omega, show ((k : Int)).toNat = k by omega] at h
      cases hx : (i32 x).toBitVec.getLsbD k
      · rfl
      · cases hy : (i32 y).toBitVec.getLsbD k
        · rw [hx, hy] at h; simp at h
        · have ht : decide (k < 32) = true := by simp; omega
          rw [ht]; rfl
theorem ntz0 : ∀ x : Fin 256, x.val ≠ 0 → ∃ t : Fin 8, JI_numberOfTrailingZeros ((x.val : Nat) : Int) = some ((t.val : Nat) : Int) ∧ bB x.val t.val = true := by decide +kernel
theorem ntz_ok {x : Int} (x0 : 0 < x) (x1 : x < 256) : ∃ t, 0 ≤ t ∧ t < 8 ∧ JI_numberOfTrailingZeros x = some t ∧ bit x t = 1 := by
  obtain ⟨t, e, hb⟩ := ntz0 ⟨x.toNat, by omega⟩ (by simp only; omega)
  simp only at e hb
  refine ⟨(t.val : Int), by omega, by have := t.isLt; omega, by rw [← e]; congr 1; omega, ?_⟩
  rw [bit_B (by omega) x1 (by omega) (by have := t.isLt; omega), show ((t.val : Nat) : Int).toNat = t.val by omega, hb]
  rfl
