/-! sentences: the class -/
section
variable {h : Hp} {P ob n : Int} {G : Gm} {row : Int → Int}
def SnI (h0 h : Hp) (G : Gm) (ob : Int) (v u m N : Nat) : Prop :=
  RdF m h0 h ∧ ∃ (L : List Cd) (D : List Int), MkS h m L ∧ LsI h m D ∧ L.length < 64 ∧ D ++ (L.filter (rdC G ob m)).map Prod.fst = ((sA v u m N).filter (rdC G ob m)).map Prod.fst ∧ D.length + L.length ≤ N
theorem sent_step (X : BX h P G ob n row) {g : Hp} {v u m idx : Nat} (hv : h P 5 = (v : Int)) (hm : m ≤ 4) (hu : u = (bitsN v).length) (u4 : u ≤ 4) (hi : idx < u ^ m) (I : SnI h g G ob v u m idx) :
    ∃ g', X_knowSentences_L60 0 m u ((u ^ m : Nat) : Int) idx g = some (.inl ((idx : Int) + 1, g')) ∧ SnI h g' G ob v u m (idx + 1) := by
  obtain ⟨F, L, D, S, LI, hl, hD, hb⟩ := I
  have X1 := BX_vol (F.vol (by omega) (by omega)) X
  have T := bx_sx X1
  have a256 := pu4 (u := u) u4 hm
  have lb5 := X.2.1.2.2.2.2.2.2.2.2.2
  have hv1 : g P 5 = (v : Int) := by
    have hp := bx_P X
    rw [F P 5 (Or.inl (by omega)) (by omega) (by omega) (Or.inl (by omega)) (by omega) (by omega) (Or.inl (by omega)) (by omega)]
    exact hv
  have hum : 0 < u ∨ m = 0 := by
    by_cases h0 : u = 0
    · right
      apply Classical.byContradiction
      intro hm0
      subst h0
      rw [Nat.zero_pow (by omega)] at hi
      omega
    · left; omega
  unfold X_knowSentences_L60 X_knowSentences_j102
  rw [if_neg (by omega), if_pos (show kK 0 = 10 by decide), bx_15 X1, if_pos (bx_kP X1), sx_at T (show (0, 7, 18) ∈ shX by decide), if_pos (show kK 18 = 5 by decide), hv1, show w32 ((idx : Int) + 1) = (idx : Int) + 1 by unfold w32; omega]
  obtain ⟨g2, e2, S2, F2⟩ := addSentence_ok (h := g) (sx_at T (by decide)) (sx_at T (by decide)) hm S hl (by rw [hv] at lb5; have := lb5.1.2; omega) hu u4 hum (idx := idx) (by omega)
  have F12 : RdF m h g2 := F.tr (fun c s _ _ _ a4 a5 a6 _ _ => F2 c s a4 a5 a6)
  have X2 := BX_vol (F12.vol (by omega) (by omega)) X
  have T2 := bx_sx X2
  have LI2 : LsI g2 m D := by
    obtain ⟨i1, i2, i3⟩ := LI
    exact ⟨by rw [F2 92 m (Or.inl (by decide)) (by decide) (by decide)]; exact i1, i2, fun k w hk => by rw [F2 (86 + m) k (Or.inl (by omega)) (by omega) (by omega)]; exact i3 k w hk⟩
  rw [e2, ob_some, sx_at T2 (show (0, 7, 18) ∈ shX by decide), if_pos (show kK 18 = 5 by decide), S2.1]
  have len : (L ++ [sC v u m idx]).length = L.length + 1 := by simp
  have eqD : D ++ ((L ++ [sC v u m idx]).filter (rdC G ob m)).map Prod.fst = ((sA v u m (idx + 1)).filter (rdC G ob m)).map Prod.fst := by
    rw [sA_succ, List.filter_append, List.map_append, ← List.append_assoc, hD, List.filter_append, List.map_append]
  by_cases h64 : ((L ++ [sC v u m idx]).length : Int) = 64
  · rw [if_pos h64]
    obtain ⟨g3, e3, F3, S3, I3⟩ := listRead_ok X2 (b := m) (m := m) (by omega) (by omega) (by omega) (by omega) S2 LI2 (by rw [len]; omega)
    rw [e3, ob_some]
    refine ⟨g3, rfl, F12.tr F3, [], _, S3, I3, by decide, ?_, ?_⟩
    · rw [eqD]; simp
    · have q := List.length_filter_le (rdC G ob m) (L ++ [sC v u m idx])
      rw [List.length_append, List.length_map, List.length_nil]
      rw [len] at q
      omega
  · rw [if_neg h64]
    exact ⟨g2, rfl, F12, _, D, S2, LI2, by rw [len] at h64 ⊢; omega, eqD, by rw [len]; omega⟩
theorem shl_pow {m : Nat} (hm : m ≤ 8) : i_shl 1 (m : Int) = ((2 ^ m : Nat) : Int) := by
  rw [i_shl_1 (by omega) (by omega), Int.toNat_natCast]
theorem X_knowSentences_ok (X : BX h P G ob n row) {m v : Nat} (hm : m ≤ 4) (hv : h P 5 = (v : Int)) (u4 : (bitsN v).length ≤ 4) (k0 : 0 ≤ h 0 17) (k1 : h 0 17 < 512) (hC : bit (h 0 17) m = 1 → LsI h m (sentL v G ob m)) : ∃ h', X_knowSentences 0 m h = some h' ∧ LkK m h h' ∧ LsI h' m (sentL v G ob m) := by
  have hP := bx_P X
  have lb5 := X.2.1.2.2.2.2.2.2.2.2.2.1
  have a256 := pu4 (u := (bitsN v).length) u4 hm
  have bm := and_pow (x := h 0 17) (t := m) k0 (by omega) (by omega) (by omega)
  rw [Int.toNat_natCast, ← shl_pow (show m ≤ 8 by omega)] at bm
  have e17 : ∀ c s, (c ≠ 0 ∨ s ≠ 17) → hput h 0 17 (i_or (h 0 17) (i_shl 1 m)) c s = h c s := by
    intro c s hc
    rcases hc with hc | hc
    · exact hput_ne1 hc
    · exact hput_ne2 hc
  have V1 : Vol h (hput h 0 17 (i_or (h 0 17) (i_shl 1 m))) := fun c s hv => e17 c s (vol_17 hv)
  have X1 := BX_vol V1 X
  have T1 := bx_sx X1
  have y14 : kK 92 = 21 ∧ (0 : Int) ≤ (m : Int) ∧ (m : Int) < kL 92 := ⟨by decide, by omega, by rw [show kL 92 = 6 by decide]; omega⟩
  unfold X_knowSentences X_learns X_learns_j14
  rw [if_pos (by decide), if_pos (by decide), if_pos (by decide)]
  simp only
  by_cases hz : i_and (h 0 17) (i_shl 1 m) = 0
  · rw [if_pos hz, if_pos (Or.inr rfl), ob_some]
    simp only
    rw [if_neg (by decide), sx_at T1 (show (0, 14, 92) ∈ shX by decide), if_pos y14]
    have hv1 : hput h 0 17 (i_or (h 0 17) (i_shl 1 m)) P 5 = (v : Int) := by rw [e17 P 5 (Or.inl (by omega))]; exact hv
    generalize hg0 : hput h 0 17 (i_or (h 0 17) (i_shl 1 m)) = g0 at *
    have V2 : Vol g0 (hput g0 92 m 0) := fun c s hv => hput_ne1 (vol_ne hv (fun s => by unfold volB; simp))
    have X2 := BX_vol V2 X1
    have T2 := bx_sx X2
    rw [sx_at T2 (show (0, 7, 18) ∈ shX by decide), if_pos (by decide)]
    obtain ⟨g3, e3, S3, F3⟩ := Ms_clear_ok (h := hput g0 92 m 0) (sx_at T2 (by decide)) m (by omega)
    have F03 : RdF m g0 g3 := fun c s a1 a2 a3 a4 a5 a6 a7 a8 => by
      rw [F3 c s a4 a6]
      rcases a7 with a7 | a7
      · exact hput_ne1 a7
      · exact hput_ne2 a7
    have X3 := BX_vol (F03.vol (by omega) (by omega)) X1
    have hv3 : g3 P 5 = (v : Int) := by
      rw [F03 P 5 (Or.inl (by omega)) (by omega) (by omega) (Or.inl (by omega)) (by omega) (by omega) (Or.inl (by omega)) (by omega)]
      exact hv1
    have I3 : LsI g3 m [] := ⟨by rw [F3 92 m (Or.inl (by decide)) (by decide), hput_eq]; rfl, by decide, fun k w hk => by simp at hk⟩
    have bc := bitCount_ok (x := (v : Int)) (by omega) (by omega)
    rw [Int.toNat_natCast] at bc
    rw [e3, ob_some, bx_15 X3, if_pos (bx_kP X3), hv3, bc, ob_some]
    have hall : loopN (fun q => X_knowSentences_L41 0 m ((bitsN v).length : Int) g3 q.1 q.2) LN (1, 0) = some (((bitsN v).length ^ m : Nat) : Int) := by
      obtain ⟨r, e, p⟩ := loop_ok (body := fun q => X_knowSentences_L41 0 m ((bitsN v).length : Int) g3 q.1 q.2) (fun s => 0 ≤ s.2 ∧ s.2 ≤ m ∧ s.1 = (((bitsN v).length ^ s.2.toNat : Nat) : Int)) (fun s => (m - s.2).toNat) (fun r => r = (((bitsN v).length ^ m : Nat) : Int)) (by
        rintro ⟨a, x⟩ ⟨x0, x1, ha⟩
        simp only at x0 x1 ha
        simp only
        unfold X_knowSentences_L41
        by_cases hx : (m : Int) ≤ x
        · right
          exact ⟨a, by rw [if_pos hx], by rw [ha, show x.toNat = m by omega]⟩
        · left
          have b := pu4 (u := (bitsN v).length) (m := x.toNat + 1) u4 (by omega)
          refine ⟨((((bitsN v).length ^ (x.toNat + 1) : Nat) : Int), x + 1), ?_, ⟨by simp only; omega, by simp only; omega, by simp only; rw [show (x + 1).toNat = x.toNat + 1 by omega]⟩, by simp only; omega⟩
          rw [if_neg hx, show w32 (x + 1) = x + 1 by unfold w32; omega, ha, ← Int.natCast_mul, ← Nat.pow_succ]
          generalize (bitsN v).length ^ (x.toNat + 1) = z at *
          rw [show w32 (z : Int) = z by unfold w32; omega]) LN (1, 0) ⟨Int.le_refl _, by simp only; omega, rfl⟩ (by unfold LN; simp only; omega)
      rw [e, p]
    rw [hall, ob_some]
    have M3 : SnI g0 g3 G ob v (bitsN v).length m 0 := ⟨F03, [], [], S3, I3, by decide, rfl, by decide⟩
    obtain ⟨g4, e4, M4⟩ := loop_ok (body := fun q => X_knowSentences_L60 0 m ((bitsN v).length : Int) (((bitsN v).length ^ m : Nat) : Int) q.1 q.2) (fun s => 0 ≤ s.1 ∧ s.1 ≤ (((bitsN v).length ^ m : Nat) : Int) ∧ SnI g0 s.2 G ob v (bitsN v).length m s.1.toNat) (fun s => ((((bitsN v).length ^ m : Nat) : Int) - s.1).toNat) (fun g' => SnI g0 g' G ob v (bitsN v).length m ((bitsN v).length ^ m)) (by
      rintro ⟨p, f⟩ ⟨p0, p1, hI⟩
      simp only at p0 p1 hI
      simp only
      by_cases hp : p < (((bitsN v).length ^ m : Nat) : Int)
      · left
        obtain ⟨f2, e, I2⟩ := sent_step X1 hv1 hm rfl u4 (idx := p.toNat) (by omega) hI
        rw [show ((p.toNat : Nat) : Int) = p by omega] at e
        exact ⟨_, e, ⟨by simp only; omega, by simp only; omega, by simp only; rw [show (p + 1).toNat = p.toNat + 1 by omega]; exact I2⟩, by simp only; omega⟩
      · right
        refine ⟨f, by unfold X_knowSentences_L60; rw [if_pos (by omega)], ?_⟩
        rw [show p.toNat = (bitsN v).length ^ m by omega] at hI
        exact hI) LN (0, g3) ⟨Int.le_refl _, Int.natCast_nonneg _, M3⟩ (by unfold LN; simp only; omega)
    obtain ⟨F4, L, D, S4, I4, hl, hD, hb⟩ := M4
    have X4 := BX_vol (F4.vol (by omega) (by omega)) X1
    obtain ⟨g5, e5, F5, S5, I5⟩ := listRead_ok X4 (b := m) (m := m) (by omega) (by omega) (by omega) (by omega) S4 I4 (by omega)
    rw [e4, ob_some, e5, ob_some]
    rw [hD] at I5
    have F := F4.tr F5
    refine ⟨g5, rfl, ⟨?_, ?_⟩, I5⟩
    · intro c s a1 a2 a3 a4 a5 a6 a7 a8 a9
      rw [F c s a1 a2 a3 a4 a5 a6 a7 a8, e17 c s a9]
    · rw [F 0 17 (by decide) (by decide) (by decide) (by decide) (by decide) (by decide) (Or.inl (by decide)) (by omega), ← hg0, hput_eq]
  · have h1 : bit (h 0 17) m = 1 := by
      rcases bit_z (x := h 0 17) (t := m) k0 (by omega) (by omega) (by omega) with z | z
      · exact absurd (bm.mpr z) hz
      · exact z
    rw [if_neg hz, if_pos (Or.inl rfl), ob_some]
    simp only [if_true]
    obtain ⟨i1, i2, i3⟩ := hC h1
    refine ⟨_, rfl, ⟨fun c s _ _ _ _ _ _ _ _ a9 => e17 c s a9, by rw [hput_eq]⟩, by rw [e17 92 m (Or.inl (by decide))]; exact i1, i2, fun k w hk => by rw [e17 (86 + m) k (Or.inl (by omega))]; exact i3 k w hk⟩
/-- what a call of a list of sentences leaves -/
def SnC (h h' : Hp) (G : Gm) (ob : Int) (v : Nat) (m : Int) : Prop := h' = h ∨ (0 ≤ m ∧ m ≤ 4 ∧ LkK m h h' ∧ LsI h' m (sentL v G ob m.toNat))
noncomputable def sentsV (v : Nat) (G : Gm) (ob m : Int) : Int := if m < 0 ∨ 4 < m then -2 else if 4 < (bitsN v).length then -5 else ((sentL v G ob m.toNat).length : Int)
noncomputable def sentV (v : Nat) (G : Gm) (ob m k : Int) : Int := if m < 0 ∨ 4 < m ∨ k < 0 then -2 else if 4 < (bitsN v).length then -5 else nth (sentL v G ob m.toNat) k
theorem X_sentences_ok (X : BX h P G ob n row) {v : Nat} (hv : h P 5 = (v : Int)) (k0 : 0 ≤ h 0 17) (k1 : h 0 17 < 512) (hC : (bitsN v).length ≤ 4 → ∀ m : Nat, m ≤ 4 → bit (h 0 17) m = 1 → LsI h m (sentL v G ob m)) (m : Int) : ∃ h', X_sentences 0 m h = some (sentsV v G ob m, h') ∧ SnC h h' G ob v m := by
  have lb5 := X.2.1.2.2.2.2.2.2.2.2.2.1
  have bc := bitCount_ok (x := (v : Int)) (by omega) (by omega)
  rw [Int.toNat_natCast] at bc
  unfold X_sentences sentsV
  by_cases h0 : m < 0
  · rw [if_pos h0, if_pos (Or.inl h0)]; exact ⟨h, rfl, Or.inl rfl⟩
  rw [if_neg h0]
  by_cases h1 : m ≤ 4
  · rw [if_pos h1, if_pos (by decide), bx_15 X, if_pos (bx_kP X), hv, bc, ob_some, if_neg (show ¬ (m < 0 ∨ 4 < m) by omega)]
    by_cases hu : (bitsN v).length ≤ 4
    · obtain ⟨g, e, F, I⟩ := X_knowSentences_ok X (m := m.toNat) (by omega) hv hu k0 k1 (hC hu m.toNat (by omega))
      rw [show ((m.toNat : Nat) : Int) = m by omega] at e F I
      have T := bx_sx (BX_vol (F.vol (by omega) (by omega)) X)
      have y14 : kK 92 = 21 ∧ (0 : Int) ≤ m ∧ m < kL 92 := ⟨by decide, by omega, by rw [show kL 92 = 6 by decide]; omega⟩
      rw [if_pos (by omega), if_neg (by omega), e, ob_some, sx_at T (show (0, 14, 92) ∈ shX by decide), if_pos y14, I.1]
      exact ⟨g, rfl, Or.inr ⟨by omega, h1, F, I⟩⟩
    · rw [if_neg (by omega), if_pos (by omega)]
      exact ⟨h, rfl, Or.inl rfl⟩
  · rw [if_neg h1, if_pos (Or.inr (by omega))]; exact ⟨h, rfl, Or.inl rfl⟩
theorem X_sentence_ok (X : BX h P G ob n row) {v : Nat} (hv : h P 5 = (v : Int)) (k0 : 0 ≤ h 0 17) (k1 : h 0 17 < 512) (hC : (bitsN v).length ≤ 4 → ∀ m : Nat, m ≤ 4 → bit (h 0 17) m = 1 → LsI h m (sentL v G ob m)) (m k : Int) : ∃ h', X_sentence 0 m k h = some (sentV v G ob m k, h') ∧ SnC h h' G ob v m := by
  have lb5 := X.2.1.2.2.2.2.2.2.2.2.2.1
  have bc := bitCount_ok (x := (v : Int)) (by omega) (by omega)
  rw [Int.toNat_natCast] at bc
  unfold X_sentence sentV
  by_cases h0 : m < 0
  · rw [if_pos h0, if_pos (Or.inl h0)]; exact ⟨h, rfl, Or.inl rfl⟩
  rw [if_neg h0]
  by_cases h1 : 4 < m
  · rw [if_pos h1, if_pos (Or.inr (Or.inl h1))]; exact ⟨h, rfl, Or.inl rfl⟩
  rw [if_neg h1]
  by_cases hk : 0 ≤ k
  · rw [if_pos hk, if_pos (by decide), bx_15 X, if_pos (bx_kP X), hv, bc, ob_some, if_neg (show ¬ (m < 0 ∨ 4 < m ∨ k < 0) by omega)]
    by_cases hu : (bitsN v).length ≤ 4
    · obtain ⟨g, e, F, I⟩ := X_knowSentences_ok X (m := m.toNat) (by omega) hv hu k0 k1 (hC hu m.toNat (by omega))
      rw [show ((m.toNat : Nat) : Int) = m by omega] at e F I
      have T := bx_sx (BX_vol (F.vol (by omega) (by omega)) X)
      rw [if_pos (by omega), if_neg (by omega), e, ob_some, listedAt_ok T (by omega) (by omega) I hk, ob_some]
      exact ⟨g, rfl, Or.inr ⟨by omega, by omega, F, I⟩⟩
    · rw [if_neg (by omega), if_pos (by omega)]
      exact ⟨h, rfl, Or.inl rfl⟩
  · rw [if_neg hk, if_pos (Or.inr (Or.inr (by omega)))]; exact ⟨h, rfl, Or.inl rfl⟩
end
