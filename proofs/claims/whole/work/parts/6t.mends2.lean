/-! mends: the reference; the calls -/
def Lk2 (h h' : Hp) : Prop := ∀ c s, (c ≠ 121 ∨ (s ≠ 34 ∧ s ≠ 35 ∧ s ≠ 45 ∧ s ≠ 46 ∧ s ≠ 47)) → c ≠ 138 → c ≠ 144 → c ≠ 145 → c ≠ 146 → c ≠ 147 → h' c s = h c s
section
variable {h h' : Hp} {G : Gm} {ob n : Int} {row : Int → Int}
theorem Lk2.rf : Lk2 h h := fun _ _ _ _ _ _ _ _ => rfl
theorem Lk2.tr {h'' : Hp} (a : Lk2 h h') (b : Lk2 h' h'') : Lk2 h h'' := fun c s h1 h2 h3 h4 h5 h6 => by rw [b c s h1 h2 h3 h4 h5 h6, a c s h1 h2 h3 h4 h5 h6]
theorem Lk.two (a : Lk h h') : Lk2 h h' := fun c s h1 h2 h3 h4 h5 h6 => a c s (h1.elim Or.inl (fun z => Or.inr ⟨z.1, z.2.1⟩)) h2 h3 h4 h5 h6
theorem Lk2.put46 {v : Int} : Lk2 h (hput h 121 46 v) := fun c s h1 _ _ _ _ _ => by
  rcases h1 with h1 | h1
  · exact hput_ne1 h1
  · exact hput_ne2 h1.2.2.2.1
theorem Lk2.put138 {s v : Int} : Lk2 h (hput h 138 s v) := fun c s _ h2 _ _ _ _ => hput_ne1 h2
theorem BM_lk2 (B : BM h G ob n row) (F : Lk2 h h') : BM h' G ob n row := by
  obtain ⟨S, T, X, I, o, L⟩ := B
  have e : ∀ c s, (c ≠ 121 ∨ (s ≠ 34 ∧ s ≠ 35 ∧ s ≠ 45 ∧ s ≠ 46 ∧ s ≠ 47)) → c ≠ 138 → c ≠ 144 → c ≠ 145 → c ≠ 146 → c ≠ 147 → h' c s = h c s := F
  have ec : ∀ c s, c ≠ 121 → c ≠ 138 → c ≠ 144 → c ≠ 145 → c ≠ 146 → c ≠ 147 → h' c s = h c s := fun c s a b x y z w => e c s (Or.inl a) b x y z w
  refine ⟨?_, ?_, ?_, I, o, ?_⟩
  · intro q hq
    have : ∀ q ∈ msL, q.1 ≠ 34 ∧ q.1 ≠ 35 ∧ q.1 ≠ 45 ∧ q.1 ≠ 46 ∧ q.1 ≠ 47 := by decide
    rw [e _ _ (Or.inr (this q hq)) (by decide) (by decide) (by decide) (by decide) (by decide)]
    exact S q hq
  · unfold SpM spT at T ⊢
    simp only [ec 139 _ (by decide) (by decide) (by decide) (by decide) (by decide) (by decide), ec 140 _ (by decide) (by decide) (by decide) (by decide) (by decide) (by decide), ec 141 _ (by decide) (by decide) (by decide) (by decide) (by decide) (by decide), ec 142 _ (by decide) (by decide) (by decide) (by decide) (by decide) (by decide), ec 143 _ (by decide) (by decide) (by decide) (by decide) (by decide) (by decide)]
    exact T
  · unfold GM at X ⊢
    rw [e 121 1 (by decide) (by decide) (by decide) (by decide) (by decide) (by decide), e 121 2 (by decide) (by decide) (by decide) (by decide) (by decide) (by decide), e 121 3 (by decide) (by decide) (by decide) (by decide) (by decide) (by decide)]
    simp only [ec 122 _ (by decide) (by decide) (by decide) (by decide) (by decide) (by decide), ec 123 _ (by decide) (by decide) (by decide) (by decide) (by decide) (by decide), ec 124 _ (by decide) (by decide) (by decide) (by decide) (by decide) (by decide), ec 125 _ (by decide) (by decide) (by decide) (by decide) (by decide) (by decide), ec 126 _ (by decide) (by decide) (by decide) (by decide) (by decide) (by decide), ec 127 _ (by decide) (by decide) (by decide) (by decide) (by decide) (by decide), ec 128 _ (by decide) (by decide) (by decide) (by decide) (by decide) (by decide), ec 129 _ (by decide) (by decide) (by decide) (by decide) (by decide) (by decide), ec 130 _ (by decide) (by decide) (by decide) (by decide) (by decide) (by decide), ec 131 _ (by decide) (by decide) (by decide) (by decide) (by decide) (by decide), ec 132 _ (by decide) (by decide) (by decide) (by decide) (by decide) (by decide), ec 133 _ (by decide) (by decide) (by decide) (by decide) (by decide) (by decide), ec 134 _ (by decide) (by decide) (by decide) (by decide) (by decide) (by decide)]
    exact X
  · unfold LetM at L ⊢
    rw [e 121 32 (by decide) (by decide) (by decide) (by decide) (by decide) (by decide)]
    simp only [ec 137 _ (by decide) (by decide) (by decide) (by decide) (by decide) (by decide)]
    exact L
theorem M_readsRow_ok (B : BM h G ob n row) {m : Int} (h34 : h 121 34 = m) (m0 : 0 ≤ m) (m8 : m ≤ 8) {rw' : Int → Int} (hr : ∀ i, 0 ≤ i → i < m → h 138 i = rw' i) {d : Nat} (hd : 1953 ≤ d) : ∃ h', M_readsRow d 121 h = some (if stN G (ouB ob) rw' m = 0 then 0 else 1, h') ∧ Lk h h' := by
  have W := bm_W B
  have o := bm_ob B
  obtain ⟨g, e, gF, gZ⟩ := M_forgets_ok (bm_S B)
  have g3 : g 121 3 = ob := by rw [gF 121 3 (by decide) (by decide) (by decide) (by decide)]; exact (bm_X B).2.2.1
  have F1 : Lk h (hput g 121 35 ob) := fun c s h1 _ h3 h4 h5 h6 => by
    rw [show hput g 121 35 ob c s = g c s by
      rcases h1 with h1 | h1
      · exact hput_ne1 h1
      · exact hput_ne2 h1.2]
    exact gF c s h3 h4 h5 h6
  have B1 := BM_lk B F1
  have R := RepM_mk B1 (b := ob) (by rw [hput_eq]) o.1 o.2
  have e138 : ∀ s, hput g 121 35 ob 138 s = h 138 s := fun s => by rw [hput_ne1 (by decide), gF 138 s (by decide) (by decide) (by decide) (by decide)]
  have e34 : hput g 121 35 ob 121 34 = m := by rw [hput_ne2 (by decide), gF 121 34 (by decide) (by decide) (by decide) (by decide)]; exact h34
  have K : Look (hput g 121 35 ob) G ob m rw' := by
    refine ⟨R, ?_, e34, fun i i0 i1 => by rw [e138]; exact hr i i0 i1⟩
    intro half node i j p q hi
    left
    have := mkey_in R W hi
    rw [hput_ne1 (by decide)]
    exact (gZ _ this.1 this.2).1
  obtain ⟨g2, e2, D2, -⟩ := M_waysOfAll_ok W K (d := d - 1) (by omega) m0 (Int.le_refl _) m8
  refine ⟨g2, ?_, F1.tr (Lk.of144 D2)⟩
  unfold M_readsRow
  rw [if_pos kK_121, e, ob_some, g3]
  simp only
  rw [e34, e2, ob_some]
  simp only [cap_le0]
/-- how many there are up to a place and a letter -/
noncomputable def mA (G : Gm) (ob n : Int) (row : Int → Int) (p l : Int) : List Int := ((cOut G row p.toNat ++ cIn G row p l.toNat).filter (rdC G ob n)).map Prod.fst
theorem mA_len {p l : Int} (p0 : 0 ≤ p) (p1 : p ≤ 8) (l1 : l ≤ 26) : (mA G ob n row p l).length ≤ 300 := by
  unfold mA
  rw [List.length_map]
  refine Nat.le_trans (List.length_filter_le _ _) ?_
  rw [List.length_append]
  have a := cOut_len (G := G) (row := row) p.toNat
  have b := cIn_len (G := G) (row := row) p l.toNat
  omega
theorem mA_succ {p l : Int} (l0 : 0 ≤ l) : mA G ob n row p (l + 1) = mA G ob n row p l ++ (if mOk G row p l && rdC G ob n (100 * p + l, chg row p l) then [100 * p + l] else []) := by
  unfold mA
  rw [show (l + 1).toNat = l.toNat + 1 by omega]
  show ((cOut G row p.toNat ++ (cIn G row p l.toNat ++ (if mOk G row p (l.toNat : Int) then [(100 * p + (l.toNat : Int), chg row p (l.toNat : Int))] else []))).filter _).map _ = _
  rw [show ((l.toNat : Nat) : Int) = l by omega, ← List.append_assoc, List.filter_append (cOut G row p.toNat ++ cIn G row p l.toNat), List.map_append]
  congr 1
  cases mOk G row p l
  · simp
  · cases hr : rdC G ob n (100 * p + l, chg row p l)
    · simp [hr]
    · simp [hr]
theorem mA_pre {p l : Int} (p0 : 0 ≤ p) (p1 : p < n) (l1 : l ≤ 26) : ∃ r, mendL G ob n row = mA G ob n row p l ++ r := by
  obtain ⟨r, e⟩ := mend_pre (G := G) (row := row) (p := p.toNat) (l := l.toNat) (q := n.toNat) (by omega) (by omega)
  unfold mendL mA
  rw [e, List.filter_append, List.map_append, show ((p.toNat : Nat) : Int) = p by omega]
  exact ⟨_, rfl⟩
theorem mA_next {p : Int} (p0 : 0 ≤ p) : mA G ob n row (p + 1) 0 = mA G ob n row p 26 := by
  unfold mA
  rw [show (p + 1).toNat = p.toNat + 1 by omega]
  show ((cOut G row p.toNat ++ cIn G row ((p.toNat : Nat) : Int) 26 ++ []).filter _).map _ = _
  rw [List.append_nil, show ((p.toNat : Nat) : Int) = p by omega]
  rfl
def MdR (h : Hp) (G : Gm) (ob n : Int) (row : Int → Int) (k : Int) (q : Int × Hp) : Prop := 0 ≤ k ∧ q.1 = k + 1 ∧ Lk2 h q.2 ∧ (mendL G ob n row)[k.toNat]? = some (q.2 121 46)
theorem M_mends_row (B : BM h G ob n row) {k v p c : Int} {g : Hp} (hk : -1 ≤ k) {d : Nat} (hd : 1954 ≤ d) (hv : ∀ l, 0 ≤ l → l < 26 → (bit v l = 1 ↔ ∃ m, 0 ≤ m ∧ m < nN G ∧ kd G m = 1 ∧ lb G m = l)) (v0 : 0 ≤ v) (v1 : v < 67108864) (p0 : 0 ≤ p) (p1 : p < n) (F : Lk2 h g) (hc : c = (mA G ob n row p 0).length) (hck : k = -1 ∨ c ≤ k) :
    ∃ r, loopN (fun q => M_mendsUpTo_L22 d 121 k v p q.1 q.2.1 q.2.2) LN (c, 0, g) = some r ∧ (match r with
      | .inl q => MdR h G ob n row k q
      | .inr q => q.1 = (mA G ob n row (p + 1) 0).length ∧ (k = -1 ∨ q.1 ≤ k) ∧ Lk2 h q.2) := by
  obtain ⟨l1, l2, l3, l4⟩ := bm_L B
  refine loop_ok (fun (s : Int × Int × Hp) => 0 ≤ s.2.1 ∧ s.2.1 ≤ 26 ∧ s.1 = ((mA G ob n row p s.2.1).length : Int) ∧ (k = -1 ∨ s.1 ≤ k) ∧ Lk2 h s.2.2) (fun s => (26 - s.2.1).toNat) _ ?_ LN (c, 0, g) ⟨Int.le_refl _, by simp only; omega, hc, hck, F⟩ (by unfold LN; simp only; omega)
  rintro ⟨c, l, f⟩ ⟨l0, l26, hc, hck, F⟩
  simp only at l0 l26 hc hck F
  simp only
  unfold M_mendsUpTo_L22 M_mendsUpTo_j101
  by_cases hl : 26 ≤ l
  · right
    refine ⟨.inr (c, f), by rw [if_pos hl], ?_, hck, F⟩
    simp only
    rw [hc, show l = 26 by omega, mA_next p0]
  · have Bf := BM_lk2 B F
    have S := bm_S Bf
    have s31 : f 121 31 = 137 := ms_at S (by decide)
    have fr : f 137 p = row p := ((bm_L Bf).2.2.2 p p0 p1).1
    have y31 : kK 137 = 21 ∧ (0 : Int) ≤ p ∧ p < kL 137 := ⟨by decide, p0, by rw [show kL 137 = 8 by decide]; omega⟩
    have y33 : kK 138 = 21 ∧ (0 : Int) ≤ p ∧ p < kL 138 := ⟨by decide, p0, by rw [show kL 138 = 8 by decide]; omega⟩
    have b01 := bit_z (x := v) (t := l) v0 (by omega) l0 (by omega)
    have hm := mOk_iff (row := row) (place := p) (hv l l0 (by omega))
    have hs := mA_succ (G := G) (ob := ob) (n := n) (row := row) (p := p) l0
    have len := mA_len (G := G) (ob := ob) (n := n) (row := row) (p := p) (l := l) p0 (by omega) (by omega)
    rw [if_neg hl, show w32 (l + 1) = l + 1 by unfold w32; omega]
    have skip : mOk G row p l = false ∨ rdC G ob n (100 * p + l, chg row p l) = false → c = ((mA G ob n row p (l + 1)).length : Int) := by
      intro hf
      rw [hs]
      rcases hf with z | z
      · rw [z]; simpa using hc
      · rw [z, Bool.and_false]; simpa using hc
    by_cases hb : bit v l = 1
    · have hb0 : ¬ i_and (i_shr v l) 1 = 0 := by unfold bit at hb; omega
      rw [if_neg hb0, if_pos kK_121, s31, if_pos y31, fr]
      by_cases hr : l = row p
      · rw [if_pos hr]
        left
        have sk := skip (Or.inl (by
          cases hq : mOk G row p l
          · rfl
          · exact absurd hr.symm (hm.mp hq).2))
        exact ⟨(c, l + 1, f), rfl, ⟨by simp only; omega, by simp only; omega, sk, hck, F⟩, by simp only; omega⟩
      · have ht : mOk G row p l = true := hm.mpr ⟨hb, fun z => hr z.symm⟩
        rw [if_neg hr]
        obtain ⟨g1, e1, F1, K1⟩ := M_look0 Bf
        have B1 := BM_lk Bf F1
        have s33 : g1 121 33 = 138 := ms_at (bm_S B1) (by decide)
        rw [e1, ob_some, s33, if_pos y33]
        have B2 := BM_lk2 B1 (Lk2.put138 (s := p) (v := l))
        obtain ⟨g2, e2, F2⟩ := M_readsRow_ok B2 (m := n) (by rw [hput_ne1 (by decide)]; exact K1.2.2.1) l2 l3 (rw' := chg row p l) (fun i i0 i1 => by
          unfold chg
          by_cases hi : i = p
          · rw [if_pos hi, hi, hput_eq]
          · rw [if_neg hi, hput_ne2 hi]; exact K1.2.2.2 i i0 i1) (d := d - 1) (by omega)
        have Fa : Lk2 h g2 := ((F.tr F1.two).tr Lk2.put138).tr F2.two
        simp only
        rw [e2, ob_some]
        by_cases hz : stN G (ouB ob) (chg row p l) n = 0
        · have hrd : rdC G ob n (100 * p + l, chg row p l) = false := by unfold rdC; simp [hz]
          rw [if_pos hz, if_pos rfl]
          left
          have sk := skip (Or.inr hrd)
          exact ⟨(c, l + 1, g2), rfl, ⟨by simp only; omega, by simp only; omega, sk, hck, Fa⟩, by simp only; omega⟩
        · have hrd : rdC G ob n (100 * p + l, chg row p l) = true := by unfold rdC; simp [hz]
          rw [if_neg hz]
          simp only
          rw [if_neg (by decide), show w32 (c + 1) = c + 1 by unfold w32; omega, show w32 (c + 1 - 1) = c by unfold w32; omega, show w32 (w32 (100 * p) + l) = 100 * p + l by unfold w32; omega]
          rw [ht, hrd] at hs
          simp only [Bool.and_self, if_true] at hs
          have Fb : Lk2 h (hput g2 121 46 (100 * p + l)) := Fa.tr Lk2.put46
          by_cases hck2 : c = k
          · right
            refine ⟨.inl (c + 1, hput g2 121 46 (100 * p + l)), by rw [if_pos hck2], by omega, by simp only; omega, Fb, ?_⟩
            simp only
            rw [hput_eq]
            obtain ⟨r, er⟩ := mA_pre (G := G) (ob := ob) (row := row) p0 p1 (l := l + 1) (by omega)
            rw [er, hs, List.append_assoc, List.getElem?_append_right (by omega), show k.toNat - (mA G ob n row p l).length = 0 by omega]
            rfl
          · left
            refine ⟨(c + 1, l + 1, hput g2 121 46 (100 * p + l)), by rw [if_neg hck2], ⟨by simp only; omega, by simp only; omega, ?_, by simp only; omega, Fb⟩, by simp only; omega⟩
            simp only
            rw [hs, List.length_append]
            simp only [List.length_singleton]
            omega
    · have hb0 : i_and (i_shr v l) 1 = 0 := by unfold bit at hb b01; omega
      rw [if_pos hb0]
      left
      have sk := skip (Or.inl (by
        cases hq : mOk G row p l
        · rfl
        · exact absurd (hm.mp hq).1 hb))
      exact ⟨(c, l + 1, f), rfl, ⟨by simp only; omega, by simp only; omega, sk, hck, F⟩, by simp only; omega⟩
theorem M_mendsUpTo_ok (B : BM h G ob n row) {k : Int} (hk : -1 ≤ k) {d : Nat} (hd : 1954 ≤ d) : ∃ c g, M_mendsUpTo d 121 k h = some (c, g) ∧ Lk2 h g ∧ ((c = (mendL G ob n row).length ∧ (k = -1 ∨ c ≤ k)) ∨ (0 ≤ k ∧ c = k + 1 ∧ (mendL G ob n row)[k.toNat]? = some (g 121 46))) := by
  obtain ⟨l1, l2, l3, l4⟩ := bm_L B
  obtain ⟨v, ev, v0, v1, hv⟩ := M_lettersOfAll_ok B
  obtain ⟨r, e, p⟩ := loop_ok (body := fun q => M_mendsUpTo_L10 d 121 k v q.1 q.2.1 q.2.2) (fun s => 0 ≤ s.2.1 ∧ s.2.1 ≤ n ∧ s.1 = (mA G ob n row s.2.1 0).length ∧ (k = -1 ∨ s.1 ≤ k) ∧ Lk2 h s.2.2) (fun s => (n - s.2.1).toNat) (fun r => match r with
      | .inl q => MdR h G ob n row k q
      | .inr q => q.1 = (mendL G ob n row).length ∧ (k = -1 ∨ q.1 ≤ k) ∧ Lk2 h q.2) (by
    rintro ⟨c, p, f⟩ ⟨p0, pn, hc, hck, F⟩
    simp only at p0 pn hc hck F
    simp only
    have Bf := BM_lk2 B F
    unfold M_mendsUpTo_L10
    rw [if_pos kK_121, (bm_L Bf).1]
    by_cases hp : n ≤ p
    · right
      refine ⟨.inr (c, f), by rw [if_pos hp], ?_, hck, F⟩
      simp only
      rw [hc, show p = n by omega]
      unfold mA mendL
      show ((((cOut G row n.toNat ++ []).filter _).map _).length : Int) = _
      rw [List.append_nil]
    · obtain ⟨r, e, q⟩ := M_mends_row B hk hd hv v0 v1 p0 (show p < n by omega) F hc hck
      rw [if_neg hp, e, ob_some]
      cases r with
      | inl q' =>
        right
        exact ⟨.inl q', rfl, q⟩
      | inr q' =>
        left
        simp only at q
        refine ⟨(q'.1, p + 1, q'.2), by simp only; rw [show w32 (p + 1) = p + 1 by unfold w32; omega], ⟨by simp only; omega, by simp only; omega, q.1, q.2.1, q.2.2⟩, by simp only; omega⟩) LN (0, 0, h) ⟨Int.le_refl _, l2, rfl, by simp only; omega, Lk2.rf⟩ (by unfold LN; simp only; omega)
  unfold M_mendsUpTo
  rw [if_pos kK_121, ev, ob_some, e, ob_some]
  cases r with
  | inl q =>
    simp only at p
    obtain ⟨p1, p2, p3, p4⟩ := p
    exact ⟨q.1, q.2, rfl, p3, Or.inr ⟨p1, p2, p4⟩⟩
  | inr q =>
    simp only at p
    obtain ⟨p1, p2, p3⟩ := p
    exact ⟨q.1, q.2, rfl, p3, Or.inl ⟨p1, p2⟩⟩
theorem M_mends_ok (B : BM h G ob n row) {d : Nat} (hd : 1955 ≤ d) : ∃ h', M_mends d 121 h = some (((mendL G ob n row).length : Int), h') ∧ Lk2 h h' := by
  obtain ⟨c, g, e, F, p⟩ := M_mendsUpTo_ok B (k := -1) (by omega) (d := d - 1) (by omega)
  rcases p with ⟨p, -⟩ | ⟨p, -⟩
  · subst p
    refine ⟨g, ?_, F⟩
    unfold M_mends
    rw [if_pos kK_121, e, ob_some]
  · omega
def nth (L : List Int) (k : Int) : Int := if k < 0 then -2 else (L[k.toNat]?).getD (-1)
theorem M_mend_ok (B : BM h G ob n row) {d : Nat} (hd : 1955 ≤ d) (k : Int) : ∃ h', M_mend d 121 k h = some (nth (mendL G ob n row) k, h') ∧ Lk2 h h' := by
  unfold M_mend nth
  by_cases hk : 0 ≤ k
  · rw [if_pos hk, if_pos kK_121, if_neg (show ¬ k < 0 by omega)]
    obtain ⟨c, g, e, F, p⟩ := M_mendsUpTo_ok B (k := k) (by omega) (d := d - 1) (by omega)
    rw [e, ob_some]
    refine ⟨g, ?_, F⟩
    simp only
    rcases p with ⟨p, q⟩ | ⟨p, q, r⟩
    · rw [if_pos (by omega), List.getElem?_eq_none (by omega)]
      rfl
    · rw [if_neg (by omega), r]
      rfl
  · rw [if_neg hk, if_pos (show k < 0 by omega)]
    exact ⟨h, rfl, Lk2.rf⟩
end
/-! the class's calls -/
section
variable {h : Hp} {P ob n : Int} {G : Gm} {row : Int → Int}
theorem LkK.vol {b : Int} (b0 : 0 ≤ b) (b1 : b < 6) {h' : Hp} (F : LkK b h h') : Vol h h' := by
  intro c s hv
  have vb : ∀ s, volB (86 + b) s = true := by
    intro s
    rcases (show b = 0 ∨ b = 1 ∨ b = 2 ∨ b = 3 ∨ b = 4 ∨ b = 5 by omega) with z | z | z | z | z | z <;> subst z <;> unfold volB <;> simp
  refine F.1 c s (vol_ns hv (fun s hs => by unfold volB; simp [hs])) (vol_ne hv (fun s => by unfold volB; simp)) (vol_ne hv (fun s => by unfold volB; simp)) ?_ (vol_ne hv (fun s => by unfold volB; simp)) (vol_ne hv (fun s => by unfold volB; simp)) (Or.inl (vol_ne hv (fun s => by unfold volB; simp))) (vol_ne hv vb) (vol_17 hv)
  by_cases e : c = 18
  · right
    intro hs
    rw [e, hs] at hv
    exact absurd hv (by decide)
  · exact Or.inl e
theorem listedAt_ok (T : ShX h) {b k : Int} (b0 : 0 ≤ b) (b1 : b < 6) {D : List Int} (I : LsI h b D) (k0 : 0 ≤ k) : X_listedAt 0 b k h = some (nth D k) := by
  obtain ⟨i1, i2, i3⟩ := I
  have y14 : kK 92 = 21 ∧ (0 : Int) ≤ b ∧ b < kL 92 := ⟨by decide, b0, by rw [show kL 92 = 6 by decide]; omega⟩
  have y13 : kK 85 = 24 ∧ (0 : Int) ≤ b ∧ b < kL 85 := ⟨by decide, b0, by rw [show kL 85 = 6 by decide]; omega⟩
  have hb : h 85 b = 86 + b := by
    rcases (show b = 0 ∨ b = 1 ∨ b = 2 ∨ b = 3 ∨ b = 4 ∨ b = 5 by omega) with z | z | z | z | z | z <;> subst z <;> exact sx_at T (by decide)
  unfold X_listedAt X_listedAt_j32 nth
  rw [if_neg (show ¬ k < 0 by omega), if_pos (show kK 0 = 10 by decide), sx_at T (show (0, 14, 92) ∈ shX by decide), if_pos y14, i1, if_neg (show ¬ k < 0 by omega)]
  by_cases hk : (D.length : Int) ≤ k
  · rw [if_pos hk, List.getElem?_eq_none (by omega)]; rfl
  · have yb : kK (86 + b) = 21 ∧ (0 : Int) ≤ k ∧ k < kL (86 + b) := by
      have : kK (86 + b) = 21 ∧ kL (86 + b) = 256 := by
        rcases (show b = 0 ∨ b = 1 ∨ b = 2 ∨ b = 3 ∨ b = 4 ∨ b = 5 by omega) with z | z | z | z | z | z <;> subst z <;> decide
      exact ⟨this.1, k0, by rw [this.2]; omega⟩
    have hw : D[k.toNat]? = some (D[k.toNat]'(by omega)) := List.getElem?_eq_getElem (by omega)
    have := i3 k.toNat _ hw
    rw [show ((k.toNat : Nat) : Int) = k by omega] at this
    rw [if_neg hk, if_neg (by omega), sx_at T (show (0, 13, 85) ∈ shX by decide), if_pos y13, hb, if_pos yb, this, hw]
    rfl
theorem X_mends_ok (X : BX h P G ob n row) (k0 : 0 ≤ h 0 17) (k1 : h 0 17 < 512) (hC : bit (h 0 17) 5 = 1 → LsI h 5 (mendL G ob n row)) : ∃ h', X_mends 0 h = some (((mendL G ob n row).length : Int), h') ∧ LkK 5 h h' ∧ LsI h' 5 (mendL G ob n row) := by
  obtain ⟨g, e, F, I⟩ := X_knowMends_ok X k0 k1 hC
  have T := bx_sx (BX_vol (F.vol (by decide) (by decide)) X)
  have y14 : kK 92 = 21 ∧ (0 : Int) ≤ 5 ∧ 5 < kL 92 := by decide
  refine ⟨g, ?_, F, I⟩
  unfold X_mends
  rw [if_pos (by decide), e, ob_some, sx_at T (show (0, 14, 92) ∈ shX by decide), if_pos y14, I.1]
theorem X_mend_ok (X : BX h P G ob n row) (k0 : 0 ≤ h 0 17) (k1 : h 0 17 < 512) (hC : bit (h 0 17) 5 = 1 → LsI h 5 (mendL G ob n row)) (k : Int) : ∃ h', X_mend 0 k h = some (nth (mendL G ob n row) k, h') ∧ (h' = h ∨ (LkK 5 h h' ∧ LsI h' 5 (mendL G ob n row))) := by
  unfold X_mend
  by_cases hk : 0 ≤ k
  · obtain ⟨g, e, F, I⟩ := X_knowMends_ok X k0 k1 hC
    have T := bx_sx (BX_vol (F.vol (by decide) (by decide)) X)
    rw [if_pos hk, if_pos (by decide), e, ob_some, listedAt_ok T (by decide) (by decide) I hk, ob_some]
    exact ⟨g, rfl, Or.inr ⟨F, I⟩⟩
  · rw [if_neg hk]
    refine ⟨h, ?_, Or.inl rfl⟩
    unfold nth
    rw [if_pos (by omega)]
end
