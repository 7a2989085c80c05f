/-! ranks are below the cap, so that it doesn't matter -/
theorem cap_lt {k w : Nat} (hk : k ≤ 1000000000000000) : (k : Int) < capN w ↔ k < w := by unfold capN; omega
theorem cap_le {k w : Nat} (hk : k ≤ 1000000000000000) : capN w ≤ (k : Int) ↔ w ≤ k := by unfold capN; omega
theorem cap_sub {k w : Nat} (hk : k ≤ 1000000000000000) (h : w ≤ k) : w64 ((k : Int) - capN w) = ((k - w : Nat) : Int) := by
  rw [capN_small (by omega)]
  unfold w64
  omega
theorem cap_div {k w : Nat} (hk : k ≤ 1000000000000000) : w64 (Int.tdiv k (capN w)) = ((k / w : Nat) : Int) := by
  have hd : k / w ≤ k := Nat.div_le_self _ _
  by_cases hw : (w : Int) ≤ 1000000000000001
  · rw [capN_small hw, ← Int.ofNat_tdiv]
    generalize k / w = m at *
    unfold w64
    omega
  · rw [capN_big (by omega), show (1000000000000001 : Int) = ((1000000000000001 : Nat) : Int) from rfl, ← Int.ofNat_tdiv, Nat.div_eq_of_lt (by omega), Nat.div_eq_of_lt (by omega)]
    decide
theorem cap_mod {k w : Nat} (hk : k ≤ 1000000000000000) : w64 (Int.tmod k (capN w)) = ((k % w : Nat) : Int) := by
  have hd : k % w ≤ k := Nat.mod_le _ _
  by_cases hw : (w : Int) ≤ 1000000000000001
  · rw [capN_small hw, ← Int.ofNat_tmod]
    generalize k % w = m at *
    unfold w64
    omega
  · rw [capN_big (by omega), show (1000000000000001 : Int) = ((1000000000000001 : Nat) : Int) from rfl, ← Int.ofNat_tmod, Nat.mod_eq_of_lt (by omega), Nat.mod_eq_of_lt (by omega)]
    unfold w64
    omega
/-! the reference's steps in the heap -/
def ssL : List (Int × Int) := [(49, 148), (50, 149), (51, 150), (52, 151), (53, 152), (54, 153), (55, 154)]
def SShp (h : Hp) : Prop := ∀ q ∈ ssL, h 121 q.1 = q.2
theorem ss_at {h : Hp} (S : SShp h) {a b : Int} (hk : (a, b) ∈ ssL) : h 121 a = b := S (a, b) hk
/-- the heap holds the steps st -/
def RTab (h : Hp) (st : St) : Prop := h 121 48 = (st.length : Int) ∧ ∀ s : Int, 0 ≤ s → s < (st.length : Int) → h 148 s = (sEnt st s).1 ∧ h 149 s = (sEnt st s).2.1 ∧ h 150 s = (sEnt st s).2.2 ∧ ∀ n, 0 ≤ n → n < 12 → h 152 (12 * s + n) = sPut st s n
/-- what laying may change -/
def F5 (h h' : Hp) : Prop := ∀ a i, (a ≠ 121 ∨ i ≠ 48) → a ≠ 144 → a ≠ 148 → a ≠ 149 → a ≠ 150 → a ≠ 151 → a ≠ 152 → a ≠ 153 → a ≠ 154 → h' a i = h a i
theorem F5.rf {h : Hp} : F5 h h := fun _ _ _ _ _ _ _ _ _ _ _ => rfl
theorem F5.tr {h h' h'' : Hp} (a : F5 h h') (b : F5 h' h'') : F5 h h'' := fun x i h1 h2 h3 h4 h5 h6 h7 h8 h9 => by rw [b x i h1 h2 h3 h4 h5 h6 h7 h8 h9, a x i h1 h2 h3 h4 h5 h6 h7 h8 h9]
theorem D144.f5 {h h' : Hp} (a : D144 h h') : F5 h h' := fun x i _ h2 _ _ _ _ _ _ _ => a x i h2
theorem SShp_5 {h h' : Hp} (F : F5 h h') (S : SShp h) : SShp h' := by
  intro q hq
  have : ∀ q ∈ ssL, q.1 ≠ 48 := by decide
  rw [F 121 q.1 (Or.inr (this q hq)) (by decide) (by decide) (by decide) (by decide) (by decide) (by decide) (by decide) (by decide)]
  exact S q hq
