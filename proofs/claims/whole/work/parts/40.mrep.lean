/-! the reference: what its rows hold -/
def msL : List (Int × Int) := [(4, 122), (5, 123), (6, 124), (7, 125), (8, 126), (9, 127), (10, 128), (13, 129), (14, 130), (15, 131), (16, 132), (17, 133), (18, 134), (19, 135), (21, 136), (31, 137), (33, 138), (36, 139), (37, 140), (38, 141), (39, 142), (40, 143), (41, 144), (42, 145), (43, 146), (44, 147)]
def MShp (h : Hp) : Prop := ∀ q ∈ msL, h 121 q.1 = q.2
def Bo (c : Bool) : Int := if c = true then 1 else 0
/-- the reference's grammar is G, the trees that count as out are ou, the letters are row -/
def RepM (h : Hp) (G : Gm) (ou : Int → Bool) (row : Int → Int) : Prop :=
  MShp h ∧ h 121 1 = nT G ∧ h 121 2 = nN G ∧ (∀ t, 0 ≤ t → t ≤ nT G → h 122 t = ft G t) ∧
  (∀ n, 0 ≤ n → n < nN G → h 123 n = kd G n ∧ h 124 n = lb G n ∧ h 125 n = mk G n ∧ h 126 n = c1 G n ∧ h 127 n = c2 G n ∧ h 129 n = nd G n ∧ h 130 n = sp G n ∧ h 131 n = tr G n) ∧
  (∀ t, 0 ≤ t → t < nT G → (h 132 t = -1 ↔ sp G (ft G t) = 0)) ∧
  (∀ t, 0 ≤ t → t < nT G → (i_and (i_shr (h 121 35) t) 1 = 0 ↔ ou t = false)) ∧
  (∀ i, 0 ≤ i → i < 8 → h 138 i = row i) ∧
  (∀ i j p q, 0 ≤ i → i ≤ j → j ≤ 8 → ((p = -1 ∧ q = -1) ∨ (i ≤ p ∧ p ≤ q ∧ q ≤ j)) → 0 ≤ h 139 (1000 * i + 100 * j + 10 * p + q + 11) ∧ h 139 (1000 * i + 100 * j + 10 * p + q + 11) < 540) ∧
  (∀ i j p q i' j' p' q', 0 ≤ i → i ≤ j → j ≤ 8 → ((p = -1 ∧ q = -1) ∨ (i ≤ p ∧ p ≤ q ∧ q ≤ j)) → 0 ≤ i' → i' ≤ j' → j' ≤ 8 → ((p' = -1 ∧ q' = -1) ∨ (i' ≤ p' ∧ p' ≤ q' ∧ q' ≤ j')) →
    h 139 (1000 * i + 100 * j + 10 * p + q + 11) = h 139 (1000 * i' + 100 * j' + 10 * p' + q' + 11) → i = i' ∧ j = j' ∧ p = p' ∧ q = q')
section MREP
variable {h h' : Hp} {G : Gm} {ou : Int → Bool} {row : Int → Int}
theorem ms_at (S : MShp h) {k v : Int} (hk : (k, v) ∈ msL) : h 121 k = v := S (k, v) hk
theorem M_place_ok {i j p q : Int} (i0 : 0 ≤ i) (ij : i ≤ j) (j8 : j ≤ 8) (hp : -1 ≤ p ∧ p ≤ 8) (hq : -1 ≤ q ∧ q ≤ 8) : M_place i j p q = some (1000 * i + 100 * j + 10 * p + q + 11) := by
  unfold M_place w32
  congr 1
  omega
theorem M_gap_ok {p q : Int} (hp : -1 ≤ p ∧ p ≤ 8) (hq : -1 ≤ q ∧ q ≤ 8) : M_gap p q = some (gapL p q) := by
  unfold M_gap gapL w32
  congr 1
  split <;> omega
theorem M_hasRoom_ok (Rp : RepM h G ou row) (W : WF G) {half node i j p q : Int} (hi : itm G half node i j p q) : M_hasRoom 121 node i j p q h = some (if cov i j p q < nd G node then 0 else 1) := by
  have hc := cov_in hi
  obtain ⟨-, n0, n1, i0, ij, j8, d⟩ := hi
  have hn := wf_nn W
  have e1 : h 121 13 = 129 := ms_at Rp.1 (by decide)
  have e2 := (Rp.2.2.2.2.1 node n0 n1).2.2.2.2.2.1
  unfold M_hasRoom
  rw [M_gap_ok (by omega) (by omega), ob_some, if_pos kK_121, e1, if_pos ⟨kK_129, n0, by rw [kL_129]; omega⟩, e2]
  have : w32 (w32 (j - i) - gapL p q) = cov i j p q := by
    unfold cov at hc ⊢
    unfold w32
    omega
  rw [this]
end MREP
