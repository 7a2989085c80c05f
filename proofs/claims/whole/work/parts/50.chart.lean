/-! the class: a chart's cells -/
def cI (i j p q : Int) : Int := sJ j + sQ q + sP p + i
theorem sP_step : ∀ a : Nat, a < 9 → ∀ b : Nat, b < 9 → a < b → sP a + a < sP b := by decide
theorem sQ_step : ∀ a : Nat, a < 9 → ∀ b : Nat, b < 9 → a < b → sQ a + sP a + a < sQ b := by decide
theorem sJ_step : ∀ a : Nat, a < 9 → ∀ b : Nat, b < 10 → a < b → sJ a + sQ a + sP a + a < sJ b := by decide
theorem sPQ_mono : ∀ a : Nat, a < 9 → ∀ b : Nat, b < 9 → a ≤ b → sP a ≤ sP b ∧ sQ a ≤ sQ b := by decide
theorem s_nn : ∀ a : Nat, a < 10 → 0 ≤ sJ a ∧ sJ a ≤ 495 ∧ 0 ≤ sP a ∧ sP a ≤ 36 ∧ 0 ≤ sQ a ∧ sQ a ≤ 120 := by decide
theorem sP_lt {a b : Int} (h0 : 0 ≤ a) (h1 : a < b) (h2 : b < 9) : sP a + a < sP b := by
  have := sP_step a.toNat (by omega) b.toNat (by omega) (by omega)
  rwa [z_ix h0, z_ix (by omega)] at this
theorem sQ_lt {a b : Int} (h0 : 0 ≤ a) (h1 : a < b) (h2 : b < 9) : sQ a + sP a + a < sQ b := by
  have := sQ_step a.toNat (by omega) b.toNat (by omega) (by omega)
  rwa [z_ix h0, z_ix (by omega)] at this
theorem sJ_lt {a b : Int} (h0 : 0 ≤ a) (h1 : a < b) (h3 : a < 9) (h2 : b < 10) : sJ a + sQ a + sP a + a < sJ b := by
  have := sJ_step a.toNat (by omega) b.toNat (by omega) (by omega)
  rwa [z_ix h0, z_ix (by omega)] at this
theorem sPQ_le {a b : Int} (h0 : 0 ≤ a) (h1 : a ≤ b) (h2 : b < 9) : sP a ≤ sP b ∧ sQ a ≤ sQ b := by
  have := sPQ_mono a.toNat (by omega) b.toNat (by omega) (by omega)
  rwa [z_ix h0, z_ix (show 0 ≤ b by omega)] at this
theorem s_in {a : Int} (h0 : 0 ≤ a) (h2 : a < 10) : 0 ≤ sJ a ∧ sJ a ≤ 495 ∧ 0 ≤ sP a ∧ sP a ≤ 36 ∧ 0 ≤ sQ a ∧ sQ a ≤ 120 := by
  have := s_nn a.toNat (by omega)
  rwa [z_ix h0] at this
theorem cI_in {i j p q : Int} (i0 : 0 ≤ i) (ip : i ≤ p) (pq : p ≤ q) (qj : q ≤ j) (j8 : j ≤ 8) {n : Int} (hn : j < n) (h9 : n < 10) : 0 ≤ cI i j p q ∧ cI i j p q < sJ n := by
  have a := s_in (a := j) (by omega) (by omega)
  have b := s_in (a := q) (by omega) (by omega)
  have c := s_in (a := p) (by omega) (by omega)
  have d := sJ_lt (a := j) (b := n) (by omega) hn (by omega) h9
  have e := sPQ_le (a := q) (b := j) (by omega) qj (by omega)
  have f := sPQ_le (a := p) (b := j) (by omega) (by omega) (by omega)
  unfold cI
  omega
theorem cI_inj {i j p q i' j' p' q' : Int} (i0 : 0 ≤ i) (ip : i ≤ p) (pq : p ≤ q) (qj : q ≤ j) (j8 : j ≤ 8) (i0' : 0 ≤ i') (ip' : i' ≤ p') (pq' : p' ≤ q') (qj' : q' ≤ j') (j8' : j' ≤ 8) (he : cI i j p q = cI i' j' p' q') : i = i' ∧ j = j' ∧ p = p' ∧ q = q' := by
  have key : ∀ {i j p q i' j' p' q' : Int}, 0 ≤ i → i ≤ p → p ≤ q → q ≤ j → j ≤ 8 → 0 ≤ i' → i' ≤ p' → p' ≤ q' → q' ≤ j' → j' ≤ 8 → cI i j p q = cI i' j' p' q' → j ≤ j' → j = j' := by
    intro i j p q i' j' p' q' i0 ip pq qj j8 i0' ip' pq' qj' j8' he hle
    by_cases hj : j < j'
    · have a := (cI_in i0 ip pq qj j8 hj (by omega)).2
      have b := s_in (a := q') (by omega) (by omega)
      have c := s_in (a := p') (by omega) (by omega)
      unfold cI at he a
      omega
    · omega
  have hj : j = j' := by
    rcases Int.le_total j j' with z | z
    · exact key i0 ip pq qj j8 i0' ip' pq' qj' j8' he z
    · exact (key i0' ip' pq' qj' j8' i0 ip pq qj j8 he.symm z).symm
  subst hj
  unfold cI at he
  have hq : q = q' := by
    by_cases h1 : q < q'
    · have a := sQ_lt (a := q) (b := q') (by omega) h1 (by omega)
      have b := sPQ_le (a := p) (b := q) (by omega) pq (by omega)
      have c := s_in (a := p') (by omega) (by omega)
      omega
    · by_cases h2 : q' < q
      · have a := sQ_lt (a := q') (b := q) (by omega) h2 (by omega)
        have b := sPQ_le (a := p') (b := q') (by omega) pq' (by omega)
        have c := s_in (a := p) (by omega) (by omega)
        omega
      · omega
  subst hq
  have hp : p = p' := by
    by_cases h1 : p < p'
    · have a := sP_lt (a := p) (b := p') (by omega) h1 (by omega)
      omega
    · by_cases h2 : p' < p
      · have a := sP_lt (a := p') (b := p) (by omega) h2 (by omega)
        omega
      · omega
  subst hp
  exact ⟨by omega, rfl, rfl, rfl⟩
theorem Ch_cell_ok {i j p q : Int} (i0 : 0 ≤ i) (ip : i ≤ p) (pq : p ≤ q) (qj : q ≤ j) (j8 : j ≤ 8) : Ch_cell i j p q = some (cI i j p q) := by
  have a := s_in (a := j) (by omega) (by omega)
  have b := s_in (a := q) (by omega) (by omega)
  have c := s_in (a := p) (by omega) (by omega)
  unfold Ch_cell
  rw [if_pos ⟨by omega, by omega⟩, if_pos ⟨by omega, by omega⟩, if_pos ⟨by omega, by omega⟩]
  congr 1
  unfold cI w32
  omega
/-- a grammar's cell with its rows behind it; a chart's with its rows -/
def GrO (P : Int) : Prop := P = 22 ∨ P = 39 ∨ P = 93 ∨ P = 107
def ChO (o : Int) : Prop := o = 21 ∨ o = 38
theorem GrO_k {P : Int} (h : GrO P) : kK P = 3 ∧ (kK (P + 1) = 21 ∧ kL (P + 1) = 9) ∧ (kK (P + 2) = 21 ∧ kL (P + 2) = 40) ∧ (kK (P + 3) = 21 ∧ kL (P + 3) = 40) ∧ (kK (P + 4) = 21 ∧ kL (P + 4) = 40) ∧ (kK (P + 5) = 21 ∧ kL (P + 5) = 40) ∧ (kK (P + 6) = 21 ∧ kL (P + 6) = 40) ∧ (kK (P + 7) = 21 ∧ kL (P + 7) = 40) ∧ (kK (P + 8) = 21 ∧ kL (P + 8) = 40) ∧ (kK (P + 9) = 21 ∧ kL (P + 9) = 40) ∧ (kK (P + 10) = 23 ∧ kL (P + 10) = 40) ∧ (kK (P + 11) = 21 ∧ kL (P + 11) = 40) ∧ (kK (P + 12) = 21 ∧ kL (P + 12) = 26) ∧ (kK (P + 13) = 21 ∧ kL (P + 13) = 26) := by
  rcases h with rfl | rfl | rfl | rfl <;> decide
theorem ChO_k {o : Int} (h : ChO o) : kK o = 1 ∧ (kK (o + 15) = 22 ∧ kL (o + 15) = 39600) ∧ (kK (o + 16) = 22 ∧ kL (o + 16) = 3960) := by
  rcases h with rfl | rfl <;> decide
/-- the class's grammar object P holds G -/
def GShp (h : Hp) (P : Int) : Prop := h P 6 = P + 1 ∧ h P 7 = P + 2 ∧ h P 8 = P + 3 ∧ h P 9 = P + 4 ∧ h P 10 = P + 5 ∧ h P 11 = P + 6 ∧ h P 12 = P + 7 ∧ h P 13 = P + 8 ∧ h P 14 = P + 9 ∧ h P 15 = P + 10 ∧ h P 16 = P + 11 ∧ h P 17 = P + 12 ∧ h P 18 = P + 13
def bit (x t : Int) : Int := i_and (i_shr x t) 1
def RepX (h : Hp) (P : Int) (G : Gm) : Prop :=
  GrO P ∧ GShp h P ∧ h P 0 = nT G ∧ h P 1 = nN G ∧ (∀ t, 0 ≤ t → t ≤ nT G → h (P + 1) t = ft G t) ∧
  (∀ n, 0 ≤ n → n < nN G → h (P + 2) n = tr G n ∧ h (P + 3) n = kd G n ∧ h (P + 4) n = lb G n ∧ h (P + 5) n = mk G n ∧ h (P + 6) n = c1 G n ∧ h (P + 7) n = c2 G n ∧ h (P + 8) n = up G n ∧ h (P + 9) n = nd G n ∧ h (P + 10) n = sp G n) ∧
  (∀ l, 0 ≤ l → l < 26 → ∀ t, 0 ≤ t → t < 8 → (bit (h (P + 12) l) t = if t < nT G ∧ sp G (ft G t) = 0 ∧ lb G (ft G t) = l then 1 else 0) ∧ (bit (h (P + 13) l) t = if t < nT G ∧ sp G (ft G t) = 1 ∧ lb G (ft G t) = l then 1 else 0)) ∧
  (∀ l, 0 ≤ l → l < 26 → 0 ≤ h (P + 12) l ∧ h (P + 12) l < 256 ∧ 0 ≤ h (P + 13) l ∧ h (P + 13) l < 256) ∧
  (∀ k, 0 ≤ k → k < nN G → 0 ≤ h (P + 11) k ∧ h (P + 11) k < nN G) ∧
  (∀ n, 0 ≤ n → n < nN G → ∃ k, 0 ≤ k ∧ k < nN G ∧ h (P + 11) k = n) ∧
  (∀ k k', 0 ≤ k → k < k' → k' < nN G → turn G (h (P + 11) k) < turn G (h (P + 11) k') ∨ (turn G (h (P + 11) k) = turn G (h (P + 11) k') ∧ h (P + 11) k' < h (P + 11) k))
