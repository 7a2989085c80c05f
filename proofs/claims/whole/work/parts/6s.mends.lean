/-! mends -/
def chg (row : Int → Int) (place l : Int) : Int → Int := fun x => if x = place then l else row x
noncomputable def mOk (G : Gm) (row : Int → Int) (place l : Int) : Bool := by
  classical exact decide ((∃ m, 0 ≤ m ∧ m < nN G ∧ kd G m = 1 ∧ lb G m = l) ∧ row place ≠ l)
noncomputable def cIn (G : Gm) (row : Int → Int) (place : Int) : Nat → List Cd
  | 0 => []
  | l + 1 => cIn G row place l ++ (if mOk G row place l then [(100 * place + l, chg row place l)] else [])
noncomputable def cOut (G : Gm) (row : Int → Int) : Nat → List Cd
  | 0 => []
  | p + 1 => cOut G row p ++ cIn G row p 26
noncomputable def mendL (G : Gm) (ob n : Int) (row : Int → Int) : List Int := ((cOut G row n.toNat).filter (rdC G ob n)).map Prod.fst
section
variable {G : Gm} {ob n : Int} {row : Int → Int}
theorem cIn_len (place : Int) : ∀ l : Nat, (cIn G row place l).length ≤ l
  | 0 => Nat.le_refl _
  | l + 1 => by
    have := cIn_len place l
    unfold cIn
    rw [List.length_append]
    split <;> simp <;> omega
theorem cOut_len : ∀ p : Nat, (cOut G row p).length ≤ 26 * p
  | 0 => Nat.le_refl _
  | p + 1 => by
    have a := cOut_len p
    have b := cIn_len (G := G) (row := row) (p : Int) 26
    unfold cOut
    rw [List.length_append]
    omega
theorem cIn_pre (place : Int) {l : Nat} : ∀ m : Nat, ∃ r, cIn G row place (l + m) = cIn G row place l ++ r
  | 0 => ⟨[], by simp⟩
  | m + 1 => by
    obtain ⟨r, e⟩ := cIn_pre place (l := l) m
    refine ⟨r ++ (if mOk G row place ((l + m : Nat) : Int) then [(100 * place + ((l + m : Nat) : Int), chg row place ((l + m : Nat) : Int))] else []), ?_⟩
    show cIn G row place (l + m) ++ _ = _
    rw [e, List.append_assoc]
    rfl
theorem cOut_pre {p : Nat} : ∀ m : Nat, ∃ r, cOut G row (p + m) = cOut G row p ++ r
  | 0 => ⟨[], by simp⟩
  | m + 1 => by
    obtain ⟨r, e⟩ := cOut_pre (p := p) m
    refine ⟨r ++ cIn G row ((p + m : Nat) : Int) 26, ?_⟩
    show cOut G row (p + m) ++ _ = _
    rw [e, List.append_assoc]
    rfl
/-- those up to a place and a letter come first -/
theorem mend_pre {p l q : Nat} (hp : p < q) (hl : l ≤ 26) : ∃ r, cOut G row q = cOut G row p ++ cIn G row p l ++ r := by
  obtain ⟨r1, e1⟩ := cOut_pre (G := G) (row := row) (p := p + 1) (q - (p + 1))
  obtain ⟨r2, e2⟩ := cIn_pre (G := G) (row := row) (p : Int) (l := l) (26 - l)
  rw [show p + 1 + (q - (p + 1)) = q by omega] at e1
  rw [show l + (26 - l) = 26 by omega] at e2
  refine ⟨r2 ++ r1, ?_⟩
  rw [e1]
  show cOut G row p ++ cIn G row p 26 ++ r1 = _
  rw [e2]
  simp only [List.append_assoc]
end
section
variable {h : Hp} {P ob n : Int} {G : Gm} {row : Int → Int}
theorem addChange_ok (X : BX h P G ob n row) {L : List Cd} (S : MkS h n L) (hl : L.length < 64) {place l : Int} (l0 : 0 ≤ l) (l1 : l < 26) (p0 : 0 ≤ place) (p1 : place < n) : ∃ h', Ms_addChange 18 5 place l h = some h' ∧ MkS h' n (L ++ [(100 * place + l, chg row place l)]) ∧ ∀ c s, (c ≠ 18 ∨ s ≠ 0) → c ≠ 19 → c ≠ 20 → h' c s = h c s := by
  have T := bx_sx X
  have nn := bx_n X
  have k5 : kK 5 = 0 := by decide
  have k18 : kK 18 = 5 := by decide
  obtain ⟨g, e, gF, gS⟩ := loop_ok (body := fun q => Ms_addChange_L3 18 5 place l q.1 q.2) (fun s => 0 ≤ s.1 ∧ s.1 ≤ n ∧ (∀ c k, c ≠ 20 → s.2 c k = h c k) ∧ MkP s.2 n L (chg row place l) (fun i => decide (i < s.1))) (fun s => (n - s.1).toNat) (fun g => (∀ c k, c ≠ 20 → g c k = h c k) ∧ MkP g n L (chg row place l) (fun i => decide (i < n))) (by
    rintro ⟨x, f⟩ ⟨x0, x1, hF, hS⟩
    simp only at x0 x1 hF hS
    simp only
    unfold Ms_addChange_L3 Ms_addChange_j31
    rw [if_pos k5, hF 5 1 (by decide), nn.1]
    by_cases hx : n ≤ x
    · right
      have hnx : x = n := by omega
      subst hnx
      exact ⟨f, by rw [if_pos hx], hF, hS⟩
    · left
      have X' : LetX f n row := by
        have := bx_L X
        unfold LetX at this ⊢
        simp only [hF 5 _ (by decide), hF 6 _ (by decide)]
        exact this
      have rr : chg row place l x = if x = place then l else row x := rfl
      have hrow := (X'.2.2.2.2 x x0 (by omega)).2
      have r01 : 0 ≤ chg row place l x ∧ chg row place l x < 26 := by
        rw [rr]; split <;> omega
      obtain ⟨f2, e2, S2, F2⟩ := Ms_has_ok (h := f) (by rw [hF 18 2 (by decide)]; exact sx_at T (by decide)) hS hl nn.2.2 x0 (show x < n by omega) r01.1 r01.2
      refine ⟨(x + 1, f2), ?_, ⟨by simp only; omega, by simp only; omega, fun c k hc => by simp only; rw [F2 c k hc, hF c k hc], MkP_cg S2 (fun i i0 i1 => ?_)⟩, by simp only; omega⟩
      · rw [if_neg hx, if_pos k18, show w32 (x + 1) = x + 1 by unfold w32; omega]
        by_cases hp : x = place
        · rw [rr, if_pos hp] at e2
          rw [if_pos hp, e2, ob_some]
        · rw [rr, if_neg hp] at e2
          rw [if_neg hp, By_at_let X' x0 (by omega), ob_some, e2, ob_some, if_pos k18]
      · simp only
        by_cases hi : i = x
        · simp [hi, show x < x + 1 by omega]
        · by_cases hj : i < x
          · simp [hj, show i < x + 1 by omega]
          · simp [hi, hj, show ¬ i < x + 1 by omega]) LN (0, h) ⟨Int.le_refl _, nn.2.1, fun _ _ _ => rfl, MkP_cg (MkP_any S _) (fun i i0 i1 => by simp; omega)⟩ (by unfold LN; simp only; omega)
  obtain ⟨g2, e2, S2, F2⟩ := Ms_close_ok (h := g) (by rw [gF 18 1 (by decide)]; exact sx_at T (by decide)) gS hl (fun i i0 i1 => by simp [i1]) (100 * place + l)
  refine ⟨g2, ?_, S2, fun c s a b d => by rw [F2 c s a b, gF c s d]⟩
  unfold Ms_addChange
  rw [e, ob_some, if_pos k18, show w32 (w32 (100 * place) + l) = 100 * place + l by unfold w32; omega, e2, ob_some]
/-- the class in the middle of the changes -/
def MnI (h0 h : Hp) (G : Gm) (ob n : Int) (row : Int → Int) (A : List Cd) (bd : Nat) : Prop :=
  RdF 5 h0 h ∧ ∃ (L : List Cd) (D : List Int), MkS h n L ∧ LsI h 5 D ∧ L.length < 64 ∧ D ++ (L.filter (rdC G ob n)).map Prod.fst = (A.filter (rdC G ob n)).map Prod.fst ∧ D.length + L.length ≤ bd
theorem mOk_iff {v place l : Int} (hv : bit v l = 1 ↔ ∃ m, 0 ≤ m ∧ m < nN G ∧ kd G m = 1 ∧ lb G m = l) : mOk G row place l = true ↔ (bit v l = 1 ∧ row place ≠ l) := by
  unfold mOk
  simp only [decide_eq_true_eq, hv]
theorem mend_step (X : BX h P G ob n row) {g : Hp} {place l : Int} (p0 : 0 ≤ place) (p1 : place < n) (l0 : 0 ≤ l) (l1 : l < 26) {A : List Cd} (I : MnI h g G ob n row A (26 * place.toNat + l.toNat)) :
    ∃ g', X_knowMends_L39 0 place l g = some (.inl (l + 1, g')) ∧ MnI h g' G ob n row (A ++ (if mOk G row place l then [(100 * place + l, chg row place l)] else [])) (26 * place.toNat + (l.toNat + 1)) := by
  obtain ⟨F, L, D, S, LI, hl, hD, hb⟩ := I
  have X1 := BX_vol (F.vol (by decide) (by decide)) X
  have T := bx_sx X1
  have nn := bx_n X1
  have lb5 := X1.2.1.2.2.2.2.2.2.2.2.2
  have hm := mOk_iff (row := row) (place := place) (lb5.2 l l0 l1)
  have b01 := bit_z (x := g P 5) (t := l) lb5.1.1 (by omega) l0 (by omega)
  unfold X_knowMends_L39 X_knowMends_j109
  rw [if_neg (by omega), if_pos (show kK 0 = 10 by decide), bx_15 X1, if_pos (bx_kP X1), sx_at T (show (0, 2, 5) ∈ shX by decide), if_pos (show kK 5 = 0 by decide), By_at_let (bx_L X1) p0 p1, ob_some, show w32 (l + 1) = l + 1 by unfold w32; omega]
  have skip : mOk G row place l = false → MnI h g G ob n row (A ++ (if mOk G row place l then [(100 * place + l, chg row place l)] else [])) (26 * place.toNat + (l.toNat + 1)) := by
    intro hf
    refine ⟨F, L, D, S, LI, hl, ?_, by omega⟩
    rw [hf]
    simpa using hD
  by_cases hb1 : bit (g P 5) l = 1
  · by_cases hr : row place = l
    · have hf : mOk G row place l = false := by
        cases hq : mOk G row place l
        · rfl
        · exact absurd hr (hm.mp hq).2
      unfold bit at hb1
      rw [if_pos hb1, if_pos hr]
      exact ⟨g, rfl, skip hf⟩
    · have ht : mOk G row place l = true := hm.mpr ⟨hb1, hr⟩
      unfold bit at hb1
      rw [if_pos hb1, if_neg hr, sx_at T (show (0, 7, 18) ∈ shX by decide), if_pos (show kK 18 = 5 by decide)]
      obtain ⟨g2, e2, S2, F2⟩ := addChange_ok X1 S hl l0 l1 p0 p1
      have F12 : RdF 5 h g2 := F.tr (fun c s _ _ _ a4 a5 a6 _ _ => F2 c s a4 a5 a6)
      have X2 := BX_vol (F12.vol (by decide) (by decide)) X
      have T2 := bx_sx X2
      have LI2 : LsI g2 5 D := by
        obtain ⟨i1, i2, i3⟩ := LI
        exact ⟨by rw [F2 92 5 (by decide) (by decide) (by decide)]; exact i1, i2, fun k w hk => by rw [F2 (86 + 5) k (Or.inl (by decide)) (by decide) (by decide)]; exact i3 k w hk⟩
      rw [e2, ob_some, sx_at T2 (show (0, 7, 18) ∈ shX by decide), if_pos (show kK 18 = 5 by decide), S2.1, ht]
      have len : (L ++ [(100 * place + l, chg row place l)]).length = L.length + 1 := by simp
      have eqD : D ++ ((L ++ [(100 * place + l, chg row place l)]).filter (rdC G ob n)).map Prod.fst = ((A ++ (if true = true then [(100 * place + l, chg row place l)] else [])).filter (rdC G ob n)).map Prod.fst := by
        rw [if_pos rfl, List.filter_append, List.map_append, ← List.append_assoc, hD, List.filter_append, List.map_append]
      by_cases h64 : ((L ++ [(100 * place + l, chg row place l)]).length : Int) = 64
      · rw [if_pos h64, sx_at T2 (show (0, 2, 5) ∈ shX by decide), if_pos (show kK 5 = 0 by decide), (bx_n X2).1]
        obtain ⟨g3, e3, F3, S3, I3⟩ := listRead_ok X2 (b := 5) (by decide) (by decide) nn.2.1 nn.2.2 S2 LI2 (by rw [len]; omega)
        rw [e3, ob_some]
        refine ⟨g3, rfl, F12.tr F3, [], _, S3, I3, by decide, ?_, ?_⟩
        · rw [eqD]; simp
        · have q := List.length_filter_le (rdC G ob n) (L ++ [(100 * place + l, chg row place l)])
          rw [List.length_append, List.length_map, List.length_nil]
          rw [len] at q
          omega
      · rw [if_neg h64]
        refine ⟨g2, rfl, F12, _, D, S2, LI2, by rw [len] at h64 ⊢; omega, eqD, by rw [len]; omega⟩
  · have hf : mOk G row place l = false := by
      cases hq : mOk G row place l
      · rfl
      · exact absurd (hm.mp hq).1 hb1
    unfold bit at hb1
    rw [if_neg hb1]
    exact ⟨g, rfl, skip hf⟩
theorem mend_row (X : BX h P G ob n row) {g : Hp} {place : Int} (p0 : 0 ≤ place) (p1 : place < n) (I : MnI h g G ob n row (cOut G row place.toNat) (26 * place.toNat)) :
    ∃ g', X_knowMends_L26 0 place g = some (.inl (place + 1, g')) ∧ MnI h g' G ob n row (cOut G row (place + 1).toNat) (26 * (place + 1).toNat) := by
  have X1 := BX_vol (I.1.vol (by decide) (by decide)) X
  have T := bx_sx X1
  have nn := bx_n X1
  obtain ⟨g2, e2, I2⟩ := loop_ok (body := fun q => X_knowMends_L39 0 place q.1 q.2) (fun s => 0 ≤ s.1 ∧ s.1 ≤ 26 ∧ MnI h s.2 G ob n row (cOut G row place.toNat ++ cIn G row place s.1.toNat) (26 * place.toNat + s.1.toNat)) (fun s => (26 - s.1).toNat) (fun g' => MnI h g' G ob n row (cOut G row (place + 1).toNat) (26 * (place + 1).toNat)) (by
    rintro ⟨l, f⟩ ⟨l0, l1, hI⟩
    simp only at l0 l1 hI
    simp only
    by_cases hl : l < 26
    · left
      obtain ⟨f2, e, I2⟩ := mend_step X p0 p1 l0 hl hI
      refine ⟨_, e, ⟨by simp only; omega, by simp only; omega, ?_⟩, by simp only; omega⟩
      simp only
      rw [show (l + 1).toNat = l.toNat + 1 by omega]
      show MnI h f2 G ob n row (cOut G row place.toNat ++ (cIn G row place l.toNat ++ (if mOk G row place (l.toNat : Int) then [(100 * place + (l.toNat : Int), chg row place (l.toNat : Int))] else []))) _
      rw [show ((l.toNat : Nat) : Int) = l by omega, ← List.append_assoc]
      exact I2
    · right
      refine ⟨f, by unfold X_knowMends_L39; rw [if_pos (by omega)], ?_⟩
      rw [show l.toNat = 26 by omega] at hI
      rw [show (place + 1).toNat = place.toNat + 1 by omega]
      show MnI h f G ob n row (cOut G row place.toNat ++ cIn G row ((place.toNat : Nat) : Int) 26) _
      rw [show ((place.toNat : Nat) : Int) = place by omega, show 26 * (place.toNat + 1) = 26 * place.toNat + 26 by omega]
      exact hI) LN (0, g) ⟨Int.le_refl _, by simp only; omega, by
      simp only
      show MnI h g G ob n row (cOut G row place.toNat ++ []) _
      rw [List.append_nil]
      exact I⟩ (by unfold LN; simp only; omega)
  refine ⟨g2, ?_, I2⟩
  unfold X_knowMends_L26
  rw [if_pos (show kK 0 = 10 by decide), sx_at T (show (0, 2, 5) ∈ shX by decide), if_pos (show kK 5 = 0 by decide), nn.1, if_neg (by omega), e2, ob_some, show w32 (place + 1) = place + 1 by unfold w32; omega]
/-- the list of changes, kept or made -/
def LkK (b : Int) (h h' : Hp) : Prop := (∀ c s, (c ≠ 38 ∨ 4 ≤ s) → c ≠ 53 → c ≠ 54 → (c ≠ 18 ∨ s ≠ 0) → c ≠ 19 → c ≠ 20 → (c ≠ 92 ∨ s ≠ b) → c ≠ 86 + b → (c ≠ 0 ∨ s ≠ 17) → h' c s = h c s) ∧ h' 0 17 = i_or (h 0 17) (i_shl 1 b)
theorem X_knowMends_ok (X : BX h P G ob n row) (k0 : 0 ≤ h 0 17) (k1 : h 0 17 < 512) (hC : bit (h 0 17) 5 = 1 → LsI h 5 (mendL G ob n row)) : ∃ h', X_knowMends 0 h = some h' ∧ LkK 5 h h' ∧ LsI h' 5 (mendL G ob n row) := by
  have T := bx_sx X
  have b5 := and_pow (x := h 0 17) (t := 5) k0 (by omega) (by decide) (by decide)
  rw [show (((2 ^ (5 : Int).toNat : Nat)) : Int) = 32 by decide] at b5
  have e32 : i_shl 1 5 = 32 := by decide
  have e17 : ∀ c s, (c ≠ 0 ∨ s ≠ 17) → hput h 0 17 (i_or (h 0 17) 32) c s = h c s := by
    intro c s hc
    rcases hc with hc | hc
    · exact hput_ne1 hc
    · exact hput_ne2 hc
  have V1 : Vol h (hput h 0 17 (i_or (h 0 17) 32)) := fun c s hv => e17 c s (vol_17 hv)
  have X1 := BX_vol V1 X
  have T1 := bx_sx X1
  have y14 : kK 92 = 21 ∧ (0 : Int) ≤ 5 ∧ 5 < kL 92 := by decide
  unfold X_knowMends X_learns X_learns_j14
  rw [if_pos (by decide), if_pos (by decide), if_pos (by decide)]
  simp only
  by_cases hz : i_and (h 0 17) 32 = 0
  · rw [if_pos hz, if_pos (Or.inr rfl), ob_some]
    simp only
    rw [if_neg (by decide), sx_at T1 (show (0, 14, 92) ∈ shX by decide), if_pos y14]
    generalize hg0 : hput h 0 17 (i_or (h 0 17) 32) = g0 at *
    have V2 : Vol g0 (hput g0 92 5 0) := fun c s hv => hput_ne1 (vol_ne hv (fun s => by unfold volB; simp))
    have X2 := BX_vol V2 X1
    have T2 := bx_sx X2
    have nn2 := bx_n X2
    rw [sx_at T2 (show (0, 7, 18) ∈ shX by decide), if_pos (by decide)]
    obtain ⟨g3, e3, S3, F3⟩ := Ms_clear_ok (h := hput g0 92 5 0) (sx_at T2 (by decide)) n nn2.2.2
    rw [e3, ob_some]
    have F03 : RdF 5 g0 g3 := fun c s a1 a2 a3 a4 a5 a6 a7 a8 => by
      rw [F3 c s a4 a6]
      rcases a7 with a7 | a7
      · exact hput_ne1 a7
      · exact hput_ne2 a7
    have I3 : LsI g3 5 [] := ⟨by rw [F3 92 5 (by decide) (by decide), hput_eq]; rfl, by decide, fun k w hk => by simp at hk⟩
    have M3 : MnI g0 g3 G ob n row (cOut G row (0 : Int).toNat) (26 * (0 : Int).toNat) := ⟨F03, [], [], S3, I3, by decide, rfl, by decide⟩
    obtain ⟨g4, e4, M4⟩ := loop_ok (body := fun q => X_knowMends_L26 0 q.1 q.2) (fun s => 0 ≤ s.1 ∧ s.1 ≤ n ∧ MnI g0 s.2 G ob n row (cOut G row s.1.toNat) (26 * s.1.toNat)) (fun s => (n - s.1).toNat) (fun g' => MnI g0 g' G ob n row (cOut G row n.toNat) (26 * n.toNat)) (by
      rintro ⟨p, f⟩ ⟨p0, p1, hI⟩
      simp only at p0 p1 hI
      simp only
      by_cases hp : p < n
      · left
        obtain ⟨f2, e, I2⟩ := mend_row X1 p0 hp hI
        exact ⟨_, e, ⟨by simp only; omega, by simp only; omega, I2⟩, by simp only; omega⟩
      · right
        have Xf := BX_vol (hI.1.vol (by decide) (by decide)) X1
        refine ⟨f, ?_, by rw [show n = p by omega]; rw [show n = p by omega] at hI; exact hI⟩
        unfold X_knowMends_L26
        rw [if_pos (show kK 0 = 10 by decide), sx_at (bx_sx Xf) (show (0, 2, 5) ∈ shX by decide), if_pos (show kK 5 = 0 by decide), (bx_n Xf).1, if_pos (by omega)]) LN (0, g3) ⟨Int.le_refl _, nn2.2.1, M3⟩ (by unfold LN; simp only; omega)
    obtain ⟨F4, L, D, S4, I4, hl, hD, hb⟩ := M4
    have X4 := BX_vol (F4.vol (by decide) (by decide)) X1
    have T4 := bx_sx X4
    obtain ⟨g5, e5, F5, S5, I5⟩ := listRead_ok X4 (b := 5) (by decide) (by decide) (bx_n X4).2.1 (bx_n X4).2.2 S4 I4 (by omega)
    rw [e4, ob_some, sx_at T4 (show (0, 2, 5) ∈ shX by decide), if_pos (by decide), (bx_n X4).1, e5, ob_some]
    rw [hD] at I5
    have F := F4.tr F5
    refine ⟨g5, rfl, ⟨?_, ?_⟩, I5⟩
    · intro c s a1 a2 a3 a4 a5 a6 a7 a8 a9
      rw [F c s a1 a2 a3 a4 a5 a6 a7 a8, e17 c s a9]
    · rw [F 0 17 (by decide) (by decide) (by decide) (by decide) (by decide) (by decide) (by decide) (by decide), ← hg0, hput_eq, e32]
  · have h1 : bit (h 0 17) 5 = 1 := by
      rcases bit_z (x := h 0 17) (t := 5) k0 (by omega) (by decide) (by decide) with z | z
      · exact absurd (b5.mpr z) hz
      · exact z
    rw [if_neg hz, if_pos (Or.inl rfl), ob_some]
    simp only [if_true]
    obtain ⟨i1, i2, i3⟩ := hC h1
    refine ⟨_, rfl, ⟨fun c s _ _ _ _ _ _ _ _ a9 => e17 c s a9, by rw [hput_eq, e32]⟩, by rw [e17 92 5 (by decide)]; exact i1, i2, fun k w hk => by rw [e17 (86 + 5) k (Or.inl (by decide))]; exact i3 k w hk⟩
end
