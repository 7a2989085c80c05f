/-! sentences: the reference -/
section
variable {h : Hp} {G : Gm} {ob n : Int} {row : Int → Int}
noncomputable def sB (v : Nat) (G : Gm) (ob : Int) (m N : Nat) : List Int := ((sA v (bitsN v).length m N).filter (rdC G ob m)).map Prod.fst
theorem sB_succ (v m N : Nat) : sB v G ob m (N + 1) = sB v G ob m N ++ (if rdC G ob m (sC v (bitsN v).length m N) then [(sC v (bitsN v).length m N).1] else []) := by
  unfold sB
  rw [sA_succ, List.filter_append, List.map_append]
  congr 1
  cases hr : rdC G ob m (sC v (bitsN v).length m N)
  · simp [hr]
  · simp [hr]
theorem sB_len (v m N : Nat) : (sB v G ob m N).length ≤ N := by
  unfold sB sA
  rw [List.length_map]
  refine Nat.le_trans (List.length_filter_le _ _) ?_
  rw [List.length_map, List.length_range]
  exact Nat.le_refl _
theorem sB_pre (v m : Nat) {N : Nat} : ∀ k : Nat, ∃ r, sB v G ob m (N + k) = sB v G ob m N ++ r
  | 0 => ⟨[], by simp⟩
  | k + 1 => by
    obtain ⟨r, e⟩ := sB_pre v m (N := N) k
    rw [show N + (k + 1) = (N + k) + 1 by omega, sB_succ, e, List.append_assoc]
    exact ⟨_, rfl⟩
/-- the row of letters that a number tells -/
theorem M_word (B : BM h G ob n row) {m v u idx : Nat} (hu : u = (bitsN v).length) (hm : m ≤ 4) (v1 : v < 67108864) (u4 : u ≤ 4) (hum : 0 < u ∨ m = 0) (hi : idx < 256) (d : Nat) (k c : Int) {g : Hp} (F : Lk2 h g) :
    ∃ g', loopN (fun q => M_sentencesUpTo_L64 d 121 m k v (u : Int) ((u ^ m : Nat) : Int) c idx q.1 q.2.1 q.2.2.1 q.2.2.2) LN (0, ((u ^ m : Nat) : Int), 0, g) = some (hw (wlF v u m idx) m, g') ∧ Lk2 h g' ∧ g' 121 34 = g 121 34 ∧ ∀ i : Int, 0 ≤ i → i < m → g' 138 i = wlF v u m idx i := by
  have vv0 : (0 : Int) ≤ (v : Int) := Int.natCast_nonneg v
  have vv1 : (v : Int) < 67108864 := by omega
  have kd : ∀ z : Nat, z < u → (z : Int) < 100 := fun z hz => by omega
  have fin : ∀ y : Nat, y < m → 0 ≤ wlF v u m idx y ∧ wlF v u m idx y < 26 := fun y hy => (wl_get hu (by omega) (y : Int)).2
  obtain ⟨q, e, p1, p2, p3, p4⟩ := loop_ok (body := fun q => M_sentencesUpTo_L64 d 121 m k v (u : Int) ((u ^ m : Nat) : Int) c idx q.1 q.2.1 q.2.2.1 q.2.2.2) (fun s => 0 ≤ s.2.2.1 ∧ s.2.2.1 ≤ m ∧ s.1 = hw (wlF v u m idx) s.2.2.1.toNat ∧ s.2.1 = ((u ^ (m - s.2.2.1.toNat) : Nat) : Int) ∧ Lk2 h s.2.2.2 ∧ s.2.2.2 121 34 = g 121 34 ∧ ∀ i : Int, 0 ≤ i → i < s.2.2.1 → s.2.2.2 138 i = wlF v u m idx i) (fun s => (m - s.2.2.1).toNat) (fun q => q.1 = hw (wlF v u m idx) m ∧ Lk2 h q.2 ∧ q.2 121 34 = g 121 34 ∧ ∀ i : Int, 0 ≤ i → i < m → q.2 138 i = wlF v u m idx i) (by
    rintro ⟨told, by_, x, f⟩ ⟨x0, x1, ht, hb, hF, h34, hV⟩
    simp only at x0 x1 ht hb hF h34 hV
    simp only
    unfold M_sentencesUpTo_L64
    by_cases hx : (m : Int) ≤ x
    · right
      refine ⟨(told, f), by rw [if_pos hx], ?_, hF, h34, fun i a b => hV i a (by omega)⟩
      simp only
      rw [ht, show x.toNat = m by omega]
    · left
      have u0 : 0 < u := by omega
      have Bf := BM_lk2 B hF
      have s33 : f 121 33 = 138 := ms_at (bm_S Bf) (by decide)
      have y33 : kK 138 = 21 ∧ (0 : Int) ≤ x ∧ x < kL 138 := ⟨by decide, x0, by rw [show kL 138 = 8 by decide]; omega⟩
      obtain ⟨g1, g2, g3⟩ := wl_get (v := v) (m := m) (idx := idx) hu u0 x
      have hp : 0 < u ^ (m - 1 - x.toNat) := Nat.pow_pos u0
      have hle := pu4 (u := u) (m := m - 1 - x.toNat) u4 (by omega)
      have eb : w32 (Int.tdiv by_ (u : Int)) = ((u ^ (m - 1 - x.toNat) : Nat) : Int) := by
        rw [hb, Int.tdiv_eq_ediv_of_nonneg (Int.natCast_nonneg _), ← Int.natCast_ediv, show m - x.toNat = (m - 1 - x.toNat) + 1 by omega, Nat.pow_succ, Nat.mul_div_cancel _ u0]
        generalize u ^ (m - 1 - x.toNat) = z at *
        unfold w32; omega
      have hd : dg u m idx x.toNat < u := Nat.mod_lt _ u0
      have ed : w32 (Int.tmod (w32 (Int.tdiv (idx : Int) ((u ^ (m - 1 - x.toNat) : Nat) : Int))) (u : Int)) = ((dg u m idx x.toNat : Nat) : Int) := by
        have q1 := Nat.div_le_self idx (u ^ (m - 1 - x.toNat))
        rw [Int.tdiv_eq_ediv_of_nonneg (Int.natCast_nonneg _), ← Int.natCast_ediv, show w32 ((idx / u ^ (m - 1 - x.toNat) : Nat) : Int) = ((idx / u ^ (m - 1 - x.toNat) : Nat) : Int) by
          generalize idx / u ^ (m - 1 - x.toNat) = z at *
          unfold w32; omega, Int.tmod_eq_emod_of_nonneg (Int.natCast_nonneg _), ← Int.natCast_emod]
        unfold dg at hd ⊢
        generalize idx / u ^ (m - 1 - x.toNat) % u = z at *
        unfold w32; omega
      have lo := letterAt_ok (v := v) (k := ((dg u m idx x.toNat : Nat) : Int)) vv0 vv1 (Int.natCast_nonneg _) (kd _ hd) (r := (wlF v u m idx x).toNat) (by rw [Int.toNat_natCast, Int.toNat_natCast]; exact g1)
      rw [show (((wlF v u m idx x).toNat : Nat) : Int) = wlF v u m idx x by omega] at lo
      have hwi := hw_in (f := wlF v u m idx) x.toNat (fun y hy => fin y (by omega))
      have q27 := p27 (x := x.toNat) (by omega)
      refine ⟨(hw (wlF v u m idx) (x + 1).toNat, ((u ^ (m - 1 - x.toNat) : Nat) : Int), x + 1, hput f 138 x (wlF v u m idx x)), ?_, ⟨by simp only; omega, by simp only; omega, rfl, ?_, hF.tr Lk2.put138, ?_, ?_⟩, by simp only; omega⟩
      · rw [if_neg hx, if_pos (by omega), if_pos kK_121, eb, if_pos (by omega), ed, lo, ob_some, s33, if_pos y33]
        simp only
        rw [hput_ne1 (by decide), s33, if_pos y33, hput_eq, ht, show w32 (x + 1) = x + 1 by unfold w32; omega]
        have hs : hw (wlF v u m idx) (x + 1).toNat = 27 * hw (wlF v u m idx) x.toNat + wlF v u m idx x + 1 := by
          rw [show (x + 1).toNat = x.toNat + 1 by omega]
          show 27 * hw (wlF v u m idx) x.toNat + wlF v u m idx ((x.toNat : Nat) : Int) + 1 = _
          rw [show ((x.toNat : Nat) : Int) = x by omega]
        rw [hs, show w32 (w32 (w32 (27 * hw (wlF v u m idx) x.toNat) + wlF v u m idx x) + 1) = 27 * hw (wlF v u m idx) x.toNat + wlF v u m idx x + 1 by unfold w32; omega]
      · simp only
        rw [show m - (x + 1).toNat = m - 1 - x.toNat by omega]
      · simp only
        rw [hput_ne1 (by decide)]; exact h34
      · intro i i0 i1
        simp only at i1 ⊢
        by_cases hix : i = x
        · subst hix; rw [hput_eq]
        · rw [hput_ne2 hix]; exact hV i i0 (by omega)) LN (0, ((u ^ m : Nat) : Int), 0, g) ⟨Int.le_refl _, by simp only; omega, rfl, rfl, F, rfl, fun i a b => by simp only at b; omega⟩ (by unfold LN; simp only; omega)
  obtain ⟨q1, q2⟩ := q
  simp only at p1 p2 p3 p4
  exact ⟨q2, by rw [e, p1], p2, p3, p4⟩
theorem M_sentencesUpTo_ok (B : BM h G ob n row) {v : Nat} (hlv : M_lettersOfAll 121 h = some (v : Int)) (v1 : v < 67108864) {m : Nat} (hm : m ≤ 4) (u4 : (bitsN v).length ≤ 4) {k : Int} (hk : -1 ≤ k) {d : Nat} (hd : 1954 ≤ d) : ∃ c g, M_sentencesUpTo d 121 m k h = some (c, g) ∧ Lk2 h g ∧ ((c = (sentL v G ob m).length ∧ (k = -1 ∨ c ≤ k)) ∨ (0 ≤ k ∧ c = k + 1 ∧ (sentL v G ob m)[k.toNat]? = some (g 121 47))) := by
  have bc := bitCount_ok (x := (v : Int)) (by omega) (by omega)
  rw [Int.toNat_natCast] at bc
  have a256 := pu4 (u := (bitsN v).length) u4 hm
  have hall : loopN (fun q => M_sentencesUpTo_L17 d 121 m k v ((bitsN v).length : Int) h q.1 q.2) LN (1, 0) = some (((bitsN v).length ^ m : Nat) : Int) := by
    obtain ⟨r, e, p⟩ := loop_ok (body := fun q => M_sentencesUpTo_L17 d 121 m k v ((bitsN v).length : Int) h q.1 q.2) (fun s => 0 ≤ s.2 ∧ s.2 ≤ m ∧ s.1 = (((bitsN v).length ^ s.2.toNat : Nat) : Int)) (fun s => (m - s.2).toNat) (fun r => r = (((bitsN v).length ^ m : Nat) : Int)) (by
      rintro ⟨a, x⟩ ⟨x0, x1, ha⟩
      simp only at x0 x1 ha
      simp only
      unfold M_sentencesUpTo_L17
      by_cases hx : (m : Int) ≤ x
      · right
        exact ⟨a, by rw [if_pos hx], by rw [ha, show x.toNat = m by omega]⟩
      · left
        have b := pu4 (u := (bitsN v).length) (m := x.toNat + 1) u4 (by omega)
        refine ⟨((((bitsN v).length ^ (x.toNat + 1) : Nat) : Int), x + 1), ?_, ⟨by simp only; omega, by simp only; omega, by simp only; rw [show (x + 1).toNat = x.toNat + 1 by omega]⟩, by simp only; omega⟩
        rw [if_neg hx, show w32 (x + 1) = x + 1 by unfold w32; omega, ha, ← Int.natCast_mul, ← Nat.pow_succ]
        generalize (bitsN v).length ^ (x.toNat + 1) = z at *
        rw [show w32 (z : Int) = z by unfold w32; omega]) LN (1, 0) ⟨Int.le_refl _, by simp only; omega, rfl⟩ (by unfold LN; simp only; omega)
    rw [e, p]
  obtain ⟨r, e, p⟩ := loop_ok (body := fun q => M_sentencesUpTo_L42 d 121 m k v ((bitsN v).length : Int) (((bitsN v).length ^ m : Nat) : Int) q.1 q.2.1 q.2.2) (fun s => 0 ≤ s.2.1 ∧ s.2.1 ≤ (((bitsN v).length ^ m : Nat) : Int) ∧ s.1 = ((sB v G ob m s.2.1.toNat).length : Int) ∧ (k = -1 ∨ s.1 ≤ k) ∧ Lk2 h s.2.2) (fun s => ((((bitsN v).length ^ m : Nat) : Int) - s.2.1).toNat) (fun r => match r with
      | .inl q => 0 ≤ k ∧ q.1 = k + 1 ∧ Lk2 h q.2 ∧ (sentL v G ob m)[k.toNat]? = some (q.2 121 47)
      | .inr q => q.1 = (sentL v G ob m).length ∧ (k = -1 ∨ q.1 ≤ k) ∧ Lk2 h q.2) (by
    rintro ⟨c, x, f⟩ ⟨x0, x1, hc, hck, F⟩
    simp only at x0 x1 hc hck F
    simp only
    unfold M_sentencesUpTo_L42 M_sentencesUpTo_j149
    by_cases hx : (((bitsN v).length ^ m : Nat) : Int) ≤ x
    · right
      refine ⟨.inr (c, f), by rw [if_pos hx], ?_, hck, F⟩
      simp only
      rw [hc, show x.toNat = (bitsN v).length ^ m by omega]
      rfl
    · have len := sB_len (G := G) (ob := ob) v m x.toNat
      have hum : 0 < (bitsN v).length ∨ m = 0 := by
        by_cases h0 : (bitsN v).length = 0
        · right
          apply Classical.byContradiction
          intro hm0
          rw [h0, Nat.zero_pow (by omega)] at hx
          omega
        · left; omega
      have F1 : Lk2 h (hput f 121 34 m) := F.tr (fun c s h1 _ _ _ _ _ => by
        rcases h1 with h1 | h1
        · exact hput_ne1 h1
        · exact hput_ne2 h1.1)
      obtain ⟨g1, e1, G1, G34, GV⟩ := M_word B (u := (bitsN v).length) rfl hm v1 u4 hum (idx := x.toNat) (by omega) d k c F1
      rw [show ((x.toNat : Nat) : Int) = x by omega] at e1
      have B1 := BM_lk2 B G1
      obtain ⟨g2, e2, F2⟩ := M_readsRow_ok B1 (m := m) (by rw [G34, hput_eq]) (by omega) (by omega) GV (d := d - 1) (by omega)
      have Fa : Lk2 h g2 := G1.tr F2.two
      have hs := sB_succ (G := G) (ob := ob) v m x.toNat
      rw [if_neg hx, if_pos kK_121]
      simp only
      rw [e1, ob_some]
      simp only
      rw [e2, ob_some, show w32 (x + 1) = x + 1 by unfold w32; omega]
      have ex : (x + 1).toNat = x.toNat + 1 := by omega
      by_cases hz : stN G (ouB ob) (wlF v (bitsN v).length m x.toNat) m = 0
      · have hrd : rdC G ob m (sC v (bitsN v).length m x.toNat) = false := by unfold rdC sC; simp [hz]
        left
        rw [if_pos hz]
        simp only [if_true]
        refine ⟨(c, x + 1, g2), rfl, ⟨by simp only; omega, by simp only; omega, ?_, hck, Fa⟩, by simp only; omega⟩
        simp only
        rw [ex, hs, hrd]
        simpa using hc
      · have hrd : rdC G ob m (sC v (bitsN v).length m x.toNat) = true := by unfold rdC sC; simp [hz]
        rw [hrd, if_pos rfl] at hs
        rw [if_neg hz]
        simp only
        rw [if_neg (by decide), show w32 (c + 1) = c + 1 by unfold w32; omega, show w32 (c + 1 - 1) = c by unfold w32; omega]
        have Fb : Lk2 h (hput g2 121 47 (hw (wlF v (bitsN v).length m x.toNat) m)) := Fa.tr (fun c s h1 _ _ _ _ _ => by
          rcases h1 with h1 | h1
          · exact hput_ne1 h1
          · exact hput_ne2 h1.2.2.2.2)
        by_cases hck2 : c = k
        · right
          refine ⟨.inl (c + 1, hput g2 121 47 (hw (wlF v (bitsN v).length m x.toNat) m)), by rw [if_pos hck2], by omega, by simp only; omega, Fb, ?_⟩
          simp only
          rw [hput_eq]
          obtain ⟨r, er⟩ := sB_pre (G := G) (ob := ob) v m (N := x.toNat + 1) ((bitsN v).length ^ m - (x.toNat + 1))
          rw [show x.toNat + 1 + ((bitsN v).length ^ m - (x.toNat + 1)) = (bitsN v).length ^ m by omega] at er
          show (sB v G ob m ((bitsN v).length ^ m))[k.toNat]? = _
          rw [er, hs, List.append_assoc, List.getElem?_append_right (by omega), show k.toNat - (sB v G ob m x.toNat).length = 0 by omega]
          rfl
        · left
          refine ⟨(c + 1, x + 1, hput g2 121 47 (hw (wlF v (bitsN v).length m x.toNat) m)), by rw [if_neg hck2], ⟨by simp only; omega, by simp only; omega, ?_, by simp only; omega, Fb⟩, by simp only; omega⟩
          simp only
          rw [ex, hs, List.length_append]
          simp only [List.length_singleton]
          omega) LN (0, 0, h) ⟨Int.le_refl _, Int.natCast_nonneg _, rfl, by simp only; omega, Lk2.rf⟩ (by unfold LN; simp only; omega)
  unfold M_sentencesUpTo
  rw [if_pos kK_121, hlv, ob_some, bc, ob_some, hall, ob_some, e, ob_some]
  cases r with
  | inl q =>
    simp only at p
    obtain ⟨p1, p2, p3, p4⟩ := p
    exact ⟨q.1, q.2, rfl, p3, Or.inr ⟨p1, p2, p4⟩⟩
  | inr q =>
    simp only at p
    obtain ⟨p1, p2, p3⟩ := p
    exact ⟨q.1, q.2, rfl, p3, Or.inl ⟨p1, p2⟩⟩
theorem M_sentences_ok (B : BM h G ob n row) {v : Nat} (hlv : M_lettersOfAll 121 h = some (v : Int)) (v1 : v < 67108864) {d : Nat} (hd : 1955 ≤ d) (m : Int) : ∃ h', M_sentences d 121 m h = some (sentsV v G ob m, h') ∧ Lk2 h h' := by
  have bc := bitCount_ok (x := (v : Int)) (by omega) (by omega)
  rw [Int.toNat_natCast] at bc
  unfold M_sentences sentsV M_in M_in_j17
  by_cases h0 : m < 0
  · rw [if_pos h0, ob_some, if_pos rfl, if_pos (Or.inl h0)]; exact ⟨h, rfl, Lk2.rf⟩
  rw [if_neg h0]
  by_cases h1 : 4 < m
  · rw [if_pos h1, ob_some, if_pos rfl, if_pos (Or.inr h1)]; exact ⟨h, rfl, Lk2.rf⟩
  · rw [if_neg h1, ob_some, if_neg (by decide), if_pos kK_121, hlv, ob_some, bc, ob_some, if_neg (show ¬ (m < 0 ∨ 4 < m) by omega)]
    by_cases hu : (bitsN v).length ≤ 4
    · obtain ⟨c, g, e, F, p⟩ := M_sentencesUpTo_ok B hlv v1 (m := m.toNat) (by omega) hu (k := -1) (by omega) (d := d - 1) (by omega)
      rw [show ((m.toNat : Nat) : Int) = m by omega] at e
      rw [if_pos (by omega), if_neg (by omega), e, ob_some]
      rcases p with ⟨p, -⟩ | ⟨p, -⟩
      · subst p; exact ⟨g, rfl, F⟩
      · omega
    · rw [if_neg (by omega), if_pos (by omega)]
      exact ⟨h, rfl, Lk2.rf⟩
theorem M_sentence_ok (B : BM h G ob n row) {v : Nat} (hlv : M_lettersOfAll 121 h = some (v : Int)) (v1 : v < 67108864) {d : Nat} (hd : 1955 ≤ d) (m k : Int) : ∃ h', M_sentence d 121 m k h = some (sentV v G ob m k, h') ∧ Lk2 h h' := by
  have bc := bitCount_ok (x := (v : Int)) (by omega) (by omega)
  rw [Int.toNat_natCast] at bc
  unfold M_sentence sentV M_in M_in_j17
  by_cases h0 : m < 0
  · rw [if_pos h0, ob_some, if_pos rfl, if_pos (Or.inl h0)]; exact ⟨h, rfl, Lk2.rf⟩
  rw [if_neg h0]
  by_cases h1 : 4 < m
  · rw [if_pos h1, ob_some, if_pos rfl, if_pos (Or.inr (Or.inl h1))]; exact ⟨h, rfl, Lk2.rf⟩
  · rw [if_neg h1, ob_some, if_neg (by decide)]
    by_cases hk : 0 ≤ k
    · rw [if_pos hk, if_pos kK_121, hlv, ob_some, bc, ob_some, if_neg (show ¬ (m < 0 ∨ 4 < m ∨ k < 0) by omega)]
      by_cases hu : (bitsN v).length ≤ 4
      · obtain ⟨c, g, e, F, p⟩ := M_sentencesUpTo_ok B hlv v1 (m := m.toNat) (by omega) hu (k := k) (by omega) (d := d - 1) (by omega)
        rw [show ((m.toNat : Nat) : Int) = m by omega] at e
        rw [if_pos (by omega), if_neg (by omega), e, ob_some]
        refine ⟨g, ?_, F⟩
        simp only
        unfold nth
        rw [if_neg (show ¬ k < 0 by omega)]
        rcases p with ⟨p, q⟩ | ⟨p, q, r⟩
        · rw [if_pos (by omega), List.getElem?_eq_none (by omega)]
          rfl
        · rw [if_neg (by omega), r]
          rfl
      · rw [if_neg (by omega), if_pos (by omega)]
        exact ⟨h, rfl, Lk2.rf⟩
    · rw [if_neg hk, if_pos (Or.inr (Or.inr (by omega)))]
      exact ⟨h, rfl, Lk2.rf⟩
end
