/-! tree, count -/
section
variable {h h' : Hp} {P ob n : Int} {G : Gm} {row : Int → Int}
theorem fsA_in {k : Int} : ∀ (m : Nat) (lo : Int), 0 ≤ lo → fsA G k lo m = -1 ∨ (lo ≤ fsA G k lo m ∧ fsA G k lo m < lo + m)
  | 0, _, _ => Or.inl rfl
  | m + 1, lo, h0 => by
    unfold fsA
    split
    · exact Or.inr ⟨Int.le_refl _, by omega⟩
    · rcases fsA_in m (lo + 1) (by omega) with z | z
      · exact Or.inl z
      · exact Or.inr (by omega)
theorem fsA_s (k x : Int) (m : Nat) : fsA G k x (m + 1) = if kd G x = k then x else fsA G k (x + 1) m := rfl
theorem Gr_firstOfKind_ok (B : BX h P G ob n row) {t k : Int} (t0 : 0 ≤ t) (t1 : t < nT G) : Gr_firstOfKind P t k h = some (fstK G t k) := by
  have W := bx_W B
  have R := bx_R B
  have nt := wf_nt W
  have nn := wf_nn W
  obtain ⟨g0, g1, g2, g3, -⟩ := GrO_k R.1
  have s6 : h P 6 = P + 1 := R.2.1.1
  have s8 : h P 8 = P + 3 := R.2.1.2.2.1
  have a := ft_in W t0 (by omega)
  have b := ft_in W (t := t + 1) (by omega) (by omega)
  have st := wf_step W t0 t1
  have f0 : h (P + 1) t = ft G t := R.2.2.2.2.1 t t0 (by omega)
  have f1 : h (P + 1) (t + 1) = ft G (t + 1) := R.2.2.2.2.1 (t + 1) (by omega) (by omega)
  have y1 : kK (P + 1) = 21 ∧ 0 ≤ t ∧ t < kL (P + 1) := ⟨g1.1, t0, by rw [g1.2]; omega⟩
  have y2 : kK (P + 1) = 21 ∧ 0 ≤ t + 1 ∧ t + 1 < kL (P + 1) := ⟨g1.1, by omega, by rw [g1.2]; omega⟩
  have ew : w32 (t + 1) = t + 1 := by unfold w32; omega
  obtain ⟨r, e, p⟩ := loop_ok (body := fun q => Gr_firstOfKind_L7 P t k h q) (fun x => ft G t ≤ x ∧ x ≤ ft G (t + 1) ∧ fsA G k (ft G t) (ft G (t + 1) - ft G t).toNat = fsA G k x (ft G (t + 1) - x).toNat) (fun x => (ft G (t + 1) - x).toNat) (fun r => match r with
      | .inl v => v = fsA G k (ft G t) (ft G (t + 1) - ft G t).toNat ∧ v ≠ -1
      | .inr _ => fsA G k (ft G t) (ft G (t + 1) - ft G t).toNat = -1) (by
    rintro x ⟨x0, x1, hx⟩
    unfold Gr_firstOfKind_L7
    rw [if_pos g0, s6, ew, if_pos y2, f1, s8]
    by_cases hh : ft G (t + 1) ≤ x
    · right
      refine ⟨.inr (), by rw [if_pos hh], ?_⟩
      simp only
      rw [hx, show (ft G (t + 1) - x).toNat = 0 by omega]
      rfl
    · have hk := (R.2.2.2.2.2.1 x (by omega) (by omega)).2.1
      have y3 : kK (P + 3) = 21 ∧ 0 ≤ x ∧ x < kL (P + 3) := ⟨g3.1, by omega, by rw [g3.2]; omega⟩
      rw [if_neg hh, if_pos y3, hk]
      have hn : (ft G (t + 1) - x).toNat = (ft G (t + 1) - (x + 1)).toNat + 1 := by omega
      rw [hn] at hx
      rw [fsA_s] at hx
      by_cases hq : kd G x = k
      · right
        refine ⟨.inl x, by rw [if_pos hq], ?_⟩
        simp only
        rw [if_pos hq] at hx
        exact ⟨hx.symm, by omega⟩
      · left
        rw [if_neg hq] at hx
        refine ⟨x + 1, by rw [if_neg hq, show w32 (x + 1) = x + 1 by unfold w32; omega], ⟨by omega, by omega, ?_⟩, by omega⟩
        exact hx) LN (ft G t) ⟨Int.le_refl _, by omega, rfl⟩ (by unfold LN; omega)
  unfold Gr_firstOfKind fstK
  rw [if_pos g0, s6, if_pos y1, f0, e, ob_some]
  cases r with
  | inl v =>
    simp only at p ⊢
    have := fsA_in (G := G) (k := k) (ft G (t + 1) - ft G t).toNat (ft G t) a.1
    rw [← p.1, if_neg p.2]
    congr 1
    unfold w32
    omega
  | inr v =>
    simp only at p ⊢
    rw [if_pos p]
theorem Gr_placesOf_ok (B : BX h P G ob n row) {t : Int} (t0 : 0 ≤ t) (t1 : t < nT G) : Gr_placesOf P t h = some (plc G t : Int) := by
  have W := bx_W B
  have R := bx_R B
  have nt := wf_nt W
  have nn := wf_nn W
  obtain ⟨g0, g1, g2, g3, -⟩ := GrO_k R.1
  have s6 : h P 6 = P + 1 := R.2.1.1
  have s8 : h P 8 = P + 3 := R.2.1.2.2.1
  have a := ft_in W t0 (by omega)
  have b := ft_in W (t := t + 1) (by omega) (by omega)
  have st := wf_step W t0 t1
  have f0 : h (P + 1) t = ft G t := R.2.2.2.2.1 t t0 (by omega)
  have f1 : h (P + 1) (t + 1) = ft G (t + 1) := R.2.2.2.2.1 (t + 1) (by omega) (by omega)
  have y1 : kK (P + 1) = 21 ∧ 0 ≤ t ∧ t < kL (P + 1) := ⟨g1.1, t0, by rw [g1.2]; omega⟩
  have y2 : kK (P + 1) = 21 ∧ 0 ≤ t + 1 ∧ t + 1 < kL (P + 1) := ⟨g1.1, by omega, by rw [g1.2]; omega⟩
  have ew : w32 (t + 1) = t + 1 := by unfold w32; omega
  obtain ⟨r, e, p⟩ := loop_ok (body := fun q => Gr_placesOf_L9 P t h q.1 q.2) (fun s => ft G t ≤ s.2 ∧ s.2 ≤ ft G (t + 1) ∧ s.1 = (sI (fun n => if kd G n = 4 then 1 else 0) (ft G t) (s.2 - 1) : Int) ∧ 0 ≤ s.1 ∧ s.1 ≤ s.2 - ft G t) (fun s => (ft G (t + 1) - s.2).toNat) (fun r => r = (plc G t : Int)) (by
    rintro ⟨c, x⟩ ⟨x0, x1, hx, c0, c1⟩
    simp only at x0 x1 hx c0 c1
    simp only
    unfold Gr_placesOf_L9 Gr_placesOf_j34
    rw [if_pos g0, s6, ew, if_pos y2, f1, s8]
    by_cases hh : ft G (t + 1) ≤ x
    · right
      refine ⟨c, by rw [if_pos hh], ?_⟩
      rw [hx, show x = ft G (t + 1) by omega]; rfl
    · left
      have hk := (R.2.2.2.2.2.1 x (by omega) (by omega)).2.1
      have y3 : kK (P + 3) = 21 ∧ 0 ≤ x ∧ x < kL (P + 3) := ⟨g3.1, by omega, by rw [g3.2]; omega⟩
      refine ⟨(if kd G x = 4 then c + 1 else c, x + 1), ?_, ⟨by simp only; omega, by simp only; omega, ?_, ?_, ?_⟩, by simp only; omega⟩
      · rw [if_neg hh, if_pos y3, hk, show w32 (x + 1) = x + 1 by unfold w32; omega, show w32 (c + 1) = c + 1 by unfold w32; omega]
      · simp only
        rw [show x + 1 - 1 = x by omega, sI_succ x0, hx]
        split <;> omega
      · simp only; split <;> omega
      · simp only; split <;> omega) LN (0, ft G t) ⟨Int.le_refl _, by simp only; omega, by simp only; rw [sI_none (by omega)]; rfl, Int.le_refl _, by simp only; omega⟩ (by unfold LN; simp only; omega)
  unfold Gr_placesOf
  rw [if_pos g0, s6, if_pos y1, f0, e, ob_some, p]
def treeV (G : Gm) (t w : Int) : Int := if 0 ≤ t ∧ t < nT G then (if w = 0 then sp G (ft G t) else if w = 1 then ft G (t + 1) - ft G t else if w = 2 then lb G (ft G t) else if w = 3 then fstK G t 3 else if w = 4 then fstK G t 1 else if w = 5 then (plc G t : Int) else -2) else -2
theorem X_tree_ok (B : BX h P G ob n row) (t w : Int) : X_tree 0 t w h = some (treeV G t w) := by
  have W := bx_W B
  have R := bx_R B
  have nt := wf_nt W
  have nn := wf_nn W
  obtain ⟨g0, g1, g2, g3, g4, -⟩ := GrO_k R.1
  have s6 : h P 6 = P + 1 := R.2.1.1
  have s9 : h P 9 = P + 4 := R.2.1.2.2.2.1
  unfold X_tree treeV
  rw [if_pos (show kK 0 = 10 by decide), bx_15 B, if_pos (bx_kP B), Gr_hasTree_ok B, ob_some]
  by_cases ht : 0 ≤ t ∧ t < nT G
  · have r := root_in W ht.1 ht.2
    have f0 : h (P + 1) t = ft G t := R.2.2.2.2.1 t ht.1 (by omega)
    have f4 : h (P + 4) (ft G t) = lb G (ft G t) := (R.2.2.2.2.2.1 _ r.1 r.2.1).2.2.1
    have s01 := (wf_sp W r.1 r.2.1).1
    have y1 : kK (P + 1) = 21 ∧ 0 ≤ t ∧ t < kL (P + 1) := ⟨g1.1, ht.1, by rw [g1.2]; omega⟩
    have y4 : kK (P + 4) = 21 ∧ 0 ≤ ft G t ∧ ft G t < kL (P + 4) := ⟨g4.1, r.1, by rw [g4.2]; omega⟩
    have hb := (B.2.1.2.2.2.2.2.2.2.2.1.2.2 t ht.1 (by omega)).2
    have hb' : i_and (i_shr (h P 3) t) 1 = sp G (ft G t) := by
      unfold bit at hb
      rw [hb]
      rcases s01 with z | z
      · rw [if_neg (by omega), z]
      · rw [if_pos ⟨ht.2, z⟩, z]
    rw [if_pos ht, if_neg (by decide), if_pos ht, hb', Gr_sizeOf_ok B ht.1 ht.2, Gr_firstOfKind_ok B ht.1 ht.2, Gr_firstOfKind_ok B ht.1 ht.2, Gr_placesOf_ok B ht.1 ht.2, s6, s9, if_pos y1, f0, if_pos y4, f4]
    simp only [ob_some]
    repeat' split
    all_goals rfl
  · rw [if_neg ht, if_pos rfl, if_neg ht]
theorem M_tree_ok (B : BM h G ob n row) (t w : Int) : M_tree 121 t w h = some (treeV G t w) := by
  have W := bm_W B
  have X := bm_X B
  have S := bm_S B
  have nt := wf_nt W
  have nn := wf_nn W
  unfold M_tree treeV
  rw [if_pos kK_121, M_isTree_ok B, ob_some]
  by_cases ht : 0 ≤ t ∧ t < nT G
  · have r := root_in W ht.1 ht.2
    have s01 := (wf_sp W r.1 r.2.1).1
    have s4 : h 121 4 = 122 := ms_at S (by decide)
    have s6 : h 121 6 = 124 := ms_at S (by decide)
    have s16 : h 121 16 = 132 := ms_at S (by decide)
    have s17 : h 121 17 = 133 := ms_at S (by decide)
    have s18 : h 121 18 = 134 := ms_at S (by decide)
    obtain ⟨q1, q2, q3, q4⟩ := X.2.2.2.2.2 t ht.1 ht.2
    have f0 : h 122 t = ft G t := X.2.2.2.1 t ht.1 (by omega)
    have f4 : h 124 (ft G t) = lb G (ft G t) := (X.2.2.2.2.1 _ r.1 r.2.1).2.1
    have y1 : kK 122 = 21 ∧ 0 ≤ t ∧ t < kL 122 := ⟨kK_122, ht.1, by rw [kL_122]; omega⟩
    have y4 : kK 124 = 21 ∧ 0 ≤ ft G t ∧ ft G t < kL 124 := ⟨kK_124, r.1, by rw [kL_124]; omega⟩
    have y16 : kK 132 = 21 ∧ 0 ≤ t ∧ t < kL 132 := ⟨kK_132, ht.1, by rw [kL_132]; omega⟩
    have y17 : kK 133 = 21 ∧ 0 ≤ t ∧ t < kL 133 := ⟨kK_133, ht.1, by rw [kL_133]; omega⟩
    have y18 : kK 134 = 21 ∧ 0 ≤ t ∧ t < kL 134 := ⟨kK_134, ht.1, by rw [kL_134]; omega⟩
    have eg : M_isGuest 121 t h = some (sp G (ft G t)) := by
      unfold M_isGuest
      rw [if_pos kK_121, s16, if_pos y16]
      congr 1
      by_cases e : h 132 t = -1
      · rw [if_pos e, q2.mp e]
      · rw [if_neg e]
        have : ¬ sp G (ft G t) = 0 := fun q => e (q2.mpr q)
        omega
    have er : M_root 121 t h = some (ft G t) := by
      unfold M_root
      rw [if_pos kK_121, s4, if_pos y1, f0]
    rw [if_pos ht, if_neg (by decide), if_pos ht, eg, er, M_nodesOf_ok B ht.1 ht.2, s6, s16, s17, s18, if_pos y16, if_pos y17, if_pos y18, q1, q3, q4]
    simp only [ob_some]
    rw [if_pos y4, f4]
    have e01 : (if sp G (ft G t) = 0 then (0 : Int) else 1) = sp G (ft G t) := by
      split <;> omega
    rw [e01]
    repeat' split
    all_goals rfl
  · rw [if_neg ht, if_pos rfl, if_neg ht]
/-! count -/
theorem M_bitsOf_ok (B : BM h G ob n row) {s : Int} (hs : s = 0 ∨ s = 1) : ∃ v, M_bitsOf 121 s h = some v ∧ 0 ≤ v ∧ v < 256 ∧ ∀ t, 0 ≤ t → t < 8 → bit v t = if t < nT G ∧ sp G (ft G t) = s then 1 else 0 := by
  have W := bm_W B
  have X := bm_X B
  have S := bm_S B
  have nt := wf_nt W
  have s16 : h 121 16 = 132 := ms_at S (by decide)
  have p8 : (((2 ^ (8 : Int).toNat : Nat)) : Int) = 256 := by decide
  obtain ⟨r, e, p⟩ := loop_ok (body := fun q => M_bitsOf_L4 121 s h q.1 q.2) (fun q => 0 ≤ q.2 ∧ q.2 ≤ nT G ∧ (0 ≤ q.1 ∧ q.1 < 256 ∧ ∀ t, 0 ≤ t → t < 8 → bit q.1 t = if t < q.2 ∧ sp G (ft G t) = s then 1 else 0)) (fun q => (nT G - q.2).toNat) (fun v => 0 ≤ v ∧ v < 256 ∧ ∀ t, 0 ≤ t → t < 8 → bit v t = if t < nT G ∧ sp G (ft G t) = s then 1 else 0) (by
    rintro ⟨v, t⟩ ⟨t0, t1, v0, v1, hv⟩
    simp only at t0 t1 v0 v1 hv
    simp only
    unfold M_bitsOf_L4 M_bitsOf_j29
    rw [if_pos kK_121, X.1]
    by_cases ht : nT G ≤ t
    · right
      refine ⟨v, by rw [if_pos ht], v0, v1, ?_⟩
      rw [show nT G = t by omega]
      exact hv
    · left
      have r := root_in W t0 (show t < nT G by omega)
      have s01 := (wf_sp W r.1 r.2.1).1
      obtain ⟨q1, q2, -⟩ := X.2.2.2.2.2 t t0 (by omega)
      have y16 : kK 132 = 21 ∧ 0 ≤ t ∧ t < kL 132 := ⟨kK_132, t0, by rw [kL_132]; omega⟩
      have eg : M_isGuest 121 t h = some (sp G (ft G t)) := by
        unfold M_isGuest
        rw [if_pos kK_121, s16, if_pos y16]
        congr 1
        by_cases e : h 132 t = -1
        · rw [if_pos e, q2.mp e]
        · rw [if_neg e]
          have : ¬ sp G (ft G t) = 0 := fun q => e (q2.mpr q)
          omega
      rw [if_neg ht, eg, ob_some, show w32 (t + 1) = t + 1 by unfold w32; omega]
      by_cases hq : sp G (ft G t) = s
      · rw [if_pos hq]
        have oi := or1_in (x := v) (t := t) (n := 8) v0 (by decide) (by decide) (by rw [p8]; exact v1) t0 (by omega)
        rw [p8] at oi
        refine ⟨_, rfl, ⟨by simp only; omega, by simp only; omega, oi.1, oi.2, ?_⟩, by simp only; omega⟩
        intro u u0 u1
        simp only
        rw [bit_or1 v0 (by omega) t0 (by omega) u0 (by omega), hv u u0 u1]
        by_cases hu : u = t
        · subst hu
          rw [if_pos rfl, if_pos ⟨by omega, hq⟩]
        · rw [if_neg hu]
          by_cases hz : u < t ∧ sp G (ft G u) = s
          · rw [if_pos hz, if_pos ⟨by omega, hz.2⟩]
          · rw [if_neg hz, if_neg (fun z => hz ⟨by omega, z.2⟩)]
      · rw [if_neg hq, i_or_0 v0 (by omega)]
        refine ⟨_, rfl, ⟨by simp only; omega, by simp only; omega, v0, v1, ?_⟩, by simp only; omega⟩
        intro u u0 u1
        simp only
        rw [hv u u0 u1]
        by_cases hz : u < t ∧ sp G (ft G u) = s
        · rw [if_pos hz, if_pos ⟨by omega, hz.2⟩]
        · rw [if_neg hz, if_neg]
          rintro ⟨z1, z2⟩
          by_cases hu : u = t
          · subst hu; exact hq z2
          · exact hz ⟨by omega, z2⟩) LN (0, 0) ⟨Int.le_refl _, nt.1, Int.le_refl _, by decide, fun t t0 t1 => by simp only; rw [bit_0 t0 (by omega), if_neg (by omega)]⟩ (by unfold LN; simp only; omega)
  exact ⟨r, by unfold M_bitsOf; rw [e, ob_some], p⟩
theorem M_lettersOfAll_ok (B : BM h G ob n row) : ∃ v, M_lettersOfAll 121 h = some v ∧ 0 ≤ v ∧ v < 67108864 ∧ ∀ l, 0 ≤ l → l < 26 → (bit v l = 1 ↔ ∃ m, 0 ≤ m ∧ m < nN G ∧ kd G m = 1 ∧ lb G m = l) := by
  have W := bm_W B
  have X := bm_X B
  have S := bm_S B
  have nn := wf_nn W
  have s5 : h 121 5 = 123 := ms_at S (by decide)
  have s6 : h 121 6 = 124 := ms_at S (by decide)
  have p8 : (((2 ^ (26 : Int).toNat : Nat)) : Int) = 67108864 := by decide
  obtain ⟨r, e, p⟩ := loop_ok (body := fun q => M_lettersOfAll_L4 121 h q.1 q.2) (fun q => 0 ≤ q.2 ∧ q.2 ≤ nN G ∧ (0 ≤ q.1 ∧ q.1 < 67108864 ∧ ∀ l, 0 ≤ l → l < 26 → (bit q.1 l = 1 ↔ ∃ m, 0 ≤ m ∧ m < q.2 ∧ kd G m = 1 ∧ lb G m = l))) (fun q => (nN G - q.2).toNat) (fun v => 0 ≤ v ∧ v < 67108864 ∧ ∀ l, 0 ≤ l → l < 26 → (bit v l = 1 ↔ ∃ m, 0 ≤ m ∧ m < nN G ∧ kd G m = 1 ∧ lb G m = l)) (by
    rintro ⟨v, t⟩ ⟨t0, t1, v0, v1, hv⟩
    simp only at t0 t1 v0 v1 hv
    simp only
    unfold M_lettersOfAll_L4 M_lettersOfAll_j35
    rw [if_pos kK_121, X.2.1]
    by_cases ht : nN G ≤ t
    · right
      refine ⟨v, by rw [if_pos ht], v0, v1, ?_⟩
      rw [show nN G = t by omega]
      exact hv
    · left
      obtain ⟨r1, r2, -⟩ := X.2.2.2.2.1 t t0 (by omega)
      have y5 : kK 123 = 21 ∧ 0 ≤ t ∧ t < kL 123 := ⟨kK_123, t0, by rw [kL_123]; omega⟩
      have y6 : kK 124 = 21 ∧ 0 ≤ t ∧ t < kL 124 := ⟨kK_124, t0, by rw [kL_124]; omega⟩
      rw [if_neg ht, s5, s6, if_pos y5, r1, r2, show w32 (t + 1) = t + 1 by unfold w32; omega]
      by_cases hq : kd G t = 1
      · have ll := (wf_lb W t0 (show t < nN G by omega)).1 (by omega)
        rw [if_pos hq, if_pos y6]
        have oi := or1_in (x := v) (t := lb G t) (n := 26) v0 (by decide) (by decide) (by rw [p8]; exact v1) ll.1 ll.2
        rw [p8] at oi
        refine ⟨_, rfl, ⟨by simp only; omega, by simp only; omega, oi.1, oi.2, ?_⟩, by simp only; omega⟩
        intro u u0 u1
        simp only
        rw [bit_or1 v0 (by omega) ll.1 (by omega) u0 (by omega)]
        by_cases hu : u = lb G t
        · rw [if_pos hu]
          exact ⟨fun _ => ⟨t, t0, by omega, hq, hu.symm⟩, fun _ => rfl⟩
        · rw [if_neg hu, hv u u0 u1]
          constructor
          · rintro ⟨m, m0, m1, m2, m3⟩
            exact ⟨m, m0, by omega, m2, m3⟩
          · rintro ⟨m, m0, m1, m2, m3⟩
            have : m ≠ t := fun z => hu (by rw [← m3, z])
            exact ⟨m, m0, by omega, m2, m3⟩
      · rw [if_neg hq, i_or_0 v0 (by omega)]
        refine ⟨_, rfl, ⟨by simp only; omega, by simp only; omega, v0, v1, ?_⟩, by simp only; omega⟩
        intro u u0 u1
        simp only
        rw [hv u u0 u1]
        constructor
        · rintro ⟨m, m0, m1, m2, m3⟩
          exact ⟨m, m0, by omega, m2, m3⟩
        · rintro ⟨m, m0, m1, m2, m3⟩
          have : m ≠ t := fun z => hq (by rw [← z]; exact m2)
          exact ⟨m, m0, by omega, m2, m3⟩) LN (0, 0) ⟨Int.le_refl _, nn.1, Int.le_refl _, by decide, fun l l0 l1 => by
        simp only
        rw [bit_0 l0 (by omega)]
        constructor
        · intro z; omega
        · rintro ⟨m, m0, m1, -⟩; omega⟩ (by unfold LN; simp only; omega)
  exact ⟨r, by unfold M_lettersOfAll; rw [e, ob_some], p⟩
/-- both have the same bits -/
theorem bits8_eq {x y : Int} {f : Int → Prop} [∀ t, Decidable (f t)] (x0 : 0 ≤ x) (x1 : x < 256) (y0 : 0 ≤ y) (y1 : y < 256) (hx : ∀ t, 0 ≤ t → t < 8 → bit x t = if f t then 1 else 0) (hy : ∀ t, 0 ≤ t → t < 8 → bit y t = if f t then 1 else 0) : x = y := by
  have p8 : (((2 ^ (8 : Int).toNat : Nat)) : Int) = 256 := by decide
  exact bit_ext (n := 8) (by decide) (by decide) x0 (by rw [p8]; exact x1) y0 (by rw [p8]; exact y1) (fun t t0 t1 => by rw [hx t t0 t1, hy t t0 t1])
theorem bits26_eq {x y : Int} {f : Int → Prop} (x0 : 0 ≤ x) (x1 : x < 67108864) (y0 : 0 ≤ y) (y1 : y < 67108864) (hx : ∀ t, 0 ≤ t → t < 26 → (bit x t = 1 ↔ f t)) (hy : ∀ t, 0 ≤ t → t < 26 → (bit y t = 1 ↔ f t)) : x = y := by
  have p8 : (((2 ^ (26 : Int).toNat : Nat)) : Int) = 67108864 := by decide
  refine bit_ext (n := 26) (by decide) (by decide) x0 (by rw [p8]; exact x1) y0 (by rw [p8]; exact y1) (fun t t0 t1 => ?_)
  have a := hx t t0 t1
  have b := hy t t0 t1
  rcases bit_z x0 (by omega) t0 (show t < 32 by omega) with z | z <;> rcases bit_z y0 (by omega) t0 (show t < 32 by omega) with w | w
  · rw [z, w]
  · have := a.mpr (b.mp w); omega
  · have := b.mpr (a.mp z); omega
  · rw [z, w]
end
