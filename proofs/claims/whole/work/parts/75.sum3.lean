/-! the class: lengths, used -/
section
variable {h h' : Hp} {P ob n : Int} {G : Gm} {row : Int → Int}
theorem atStart_gen {o m sz : Int} {ou : Int → Bool} {A : Ag} {V : Int → Prop} {S : SV} (E : Ev h o P G sz ou A V) (Q : AEq G ou A V sz S) (T : Tab h o P G sz ou A S dT) (m0 : 0 ≤ m) (m1 : m ≤ sz) : Ch_atStart o m h = some (if nT G = 0 then 0 else aHosts G ou A S (lb G 0) 0 m) := by
  have W := E.1
  have R := E.2.1
  have C := E.2.2.1
  have nt := wf_nt W
  have nn := wf_nn W
  have kc := (ChO_k C.1).1
  obtain ⟨g0, g1, g2, g3, g4, g5, g6, g7, g8, g9, g10, g11, g12, g13⟩ := GrO_k R.1
  have e0 : h P 0 = nT G := R.2.2.1
  have e9 : h P 9 = P + 4 := R.2.1.2.2.2.1
  have e17 : h P 17 = P + 12 := R.2.1.2.2.2.2.2.2.2.2.2.2.2.1
  unfold Ch_atStart Gr_hostsAtStart
  rw [if_pos kc, C.2.1, if_pos g0, if_pos g0, e0]
  by_cases hz : nT G = 0
  · rw [if_pos hz, if_pos hz, ob_some]
    have : Ch_hostsOver o 0 0 m h = some 0 := by
      unfold Ch_hostsOver
      have : loopN (fun q => Ch_hostsOver_L6 o 0 0 m h q.1 q.2) LN (0, 0) = some 0 := by
        rw [show LN = 999999 + 1 from rfl]
        unfold loopN Ch_hostsOver_L6
        simp only
        rw [if_pos kc, C.2.1, if_pos g0, e0, if_pos (by omega)]
      rw [this, ob_some]
    rw [this, ob_some]
  · have st := wf_step W (t := 0) (by decide) (by omega)
    have fi := ft_in W (t := 1) (by decide) (by omega)
    have f0' := (wf_ft W).1
    rw [show (0 : Int) + 1 = 1 by decide] at st
    have kr := (wf_root W (t := 0) (by decide) (by omega)).1
    rw [f0'] at kr
    have ll := (wf_lb W (n := 0) (by decide) (by omega)).1 (by omega)
    have f4 : h (P + 4) 0 = lb G 0 := (R.2.2.2.2.2.1 0 (by decide) (by omega)).2.2.1
    have y4 : kK (P + 4) = 21 ∧ (0 : Int) ≤ 0 ∧ 0 < kL (P + 4) := ⟨g4.1, by decide, by rw [g4.2]; decide⟩
    have y12 : kK (P + 12) = 21 ∧ (0 : Int) ≤ lb G 0 ∧ lb G 0 < kL (P + 12) := ⟨g12.1, ll.1, by rw [g12.2]; exact ll.2⟩
    rw [if_neg hz, if_neg hz, e9, f4, e17, if_pos y4, if_pos y12, ob_some, Ch_hostsOver_ok E Q T ll.1 ll.2 (by decide) m0 m1 (fun _ _ _ _ => Or.inl rfl), ob_some]
def sumV (G : Gm) (ob n : Int) (row : Int → Int) : Int := if nT G = 0 then 0 else aHosts G (ouB ob) (agS row) (aFix G (ouB ob) (agS row)) (lb G 0) 0 n
theorem gr_top (I : GIn G) {t n : Int} (t0 : 0 ≤ t) (t1 : t < nT G) (n0 : 0 ≤ n) (n8 : n ≤ 8) : gr G (ft G t) 0 n (-1) (-1) ≤ 40 := by
  have a := (pl_root I t0 t1).1
  have r := root_in I.1 t0 t1
  have s := (wf_sp I.1 r.1 r.2.1).1
  unfold gr
  rw [cov_no]
  omega
theorem sumS_z (I : GIn G) {S : SV} (Q : AEq G (ouB ob) (agS row) r64 n S) (n0 : 0 ≤ n) (n8 : n ≤ 8) : Rz 41 (if nT G = 0 then 0 else aHosts G (ouB ob) (agS row) S (lb G 0) 0 n) (stN G (ouB ob) row n) := by
  have W := I.1
  have nt := wf_nt W
  have L := agS_law row
  have z0 : Rz 41 0 0 := ⟨by simp, fun z => absurd rfl z⟩
  unfold stN
  split
  · exact z0
  unfold aHosts wHosts
  apply hom_sum (R := Rz 41) L z0
  · intro x y m k vx vy hx hy
    show Rz 41 (sE x y) (m + k)
    by_cases zx : x = 0
    · subst zx
      have : sE 0 y = y := by unfold sE; rw [if_pos (Or.inl rfl), l_or_l0 vy]
      rw [this, hx.1.mp rfl, Nat.zero_add]; exact hy
    by_cases zy : y = 0
    · subst zy
      have : sE x 0 = x := by unfold sE; rw [if_pos (Or.inr rfl), l_or_r0 vx]
      rw [this, hy.1.mp rfl, Nat.add_zero]; exact hx
    have e := (sE_fld zx zy).1
    have hm : m ≠ 0 := fun z => zx (hx.1.mpr z)
    exact ⟨⟨fun z => absurd z e, fun z => by omega⟩, fun _ => PkB_E (by decide) (hx.2 zx) (hy.2 zy)⟩
  · intro t t0 t1
    cases hg : goB G (ouB ob) t (lb G 0) 0
    · rw [if_neg Bool.false_ne_true, if_neg Bool.false_ne_true]
      exact ⟨ag_0 L, z0⟩
    · rw [if_pos rfl, if_pos rfl]
      have hi := root_item W (i := 0) (j := n) t0 (show t < nT G by omega) (goB_spec hg).1 (by decide) n0 n8
      have vS := (Q _ _ _ _ _ _ hi (Int.le_refl _)).1
      have r := sum_z I Q hi (Int.le_refl _) (gr_top I t0 (show t < nT G by omega) n0 n8) (by decide) (by decide)
      refine ⟨ag_P L t0 (by omega) vS, ?_⟩
      show Rz 41 (sP' t _) _
      by_cases zx : S 1 (ft G t) 0 n (-1) (-1) = 0
      · have : sP' t (S 1 (ft G t) 0 n (-1) (-1)) = 0 := by unfold sP'; rw [if_pos zx]
        rw [this, r.1.mp zx]; exact z0
      · have q := sP_pk (by decide) (by decide) t0 (by omega) (r.2 zx)
        have e := (PkB_f q.2 (by decide)).2.2.2.2
        have hk : wW G (ouB ob) row 1 (ft G t) 0 n (-1) (-1) ≠ 0 := fun z => zx (r.1.mpr z)
        exact ⟨⟨fun z => absurd z e, fun z => absurd z hk⟩, fun _ => q.2⟩
theorem sumS_t (I : GIn G) {S : SV} (Q : AEq G (ouB ob) (agS row) r64 n S) (o0 : 0 ≤ ob) (o1 : ob < 256) (n0 : 0 ≤ n) (n8 : n ≤ 8) {u : Int} (u0 : 0 ≤ u) (u1 : u < 8) : Rt u 41 (if nT G = 0 then 0 else aHosts G (ouB ob) (agS row) S (lb G 0) 0 n) (stN G (ouB (i_or ob (i_shl 1 u))) row n) := by
  have W := I.1
  have nt := wf_nt W
  have L := agS_law row
  have z0 : Rt u 41 0 0 := ⟨fun _ => rfl, fun z => absurd rfl z⟩
  have hou : ∀ t, 0 ≤ t → t < nT G → ouB (i_or ob (i_shl 1 u)) t = (ouB ob t || decide (t = u)) := by
    intro t t0 t1
    unfold ouB
    rw [bit_or1 o0 (by omega) u0 (by omega) t0 (by omega)]
    by_cases h : t = u
    · simp [h]
    · simp [h]
  unfold stN
  split
  · exact z0
  unfold aHosts wHosts
  apply hom_sum (R := Rt u 41) L z0
  · intro x y m k vx vy hx hy
    show Rt u 41 (sE x y) (m + k)
    by_cases zx : x = 0
    · subst zx
      have : sE 0 y = y := by unfold sE; rw [if_pos (Or.inl rfl), l_or_l0 vy]
      rw [this, hx.1 rfl, Nat.zero_add]; exact hy
    by_cases zy : y = 0
    · subst zy
      have : sE x 0 = x := by unfold sE; rw [if_pos (Or.inr rfl), l_or_r0 vx]
      rw [this, hy.1 rfl, Nat.add_zero]; exact hx
    obtain ⟨e, -, e1, -⟩ := sE_fld zx zy
    refine ⟨fun z => absurd z e, fun _ => ⟨PkB_E (by decide) (hx.2 zx).1 (hy.2 zy).1, ?_⟩⟩
    have c := f1_in x
    have d := f1_in y
    rw [e1, (bit_or8 c.1 c.2 d.1 d.2 u0 u1).2, (hx.2 zx).2, (hy.2 zy).2]
    omega
  · intro t t0 t1
    cases hg : goB G (ouB ob) t (lb G 0) 0
    · have : goB G (ouB (i_or ob (i_shl 1 u))) t (lb G 0) 0 = false := by
        cases hg' : goB G (ouB (i_or ob (i_shl 1 u))) t (lb G 0) 0
        · rfl
        · obtain ⟨g1, g2, g3⟩ := goB_spec hg'
          rw [hou t t0 (by omega)] at g3
          have : ouB ob t = false := by cases h : ouB ob t <;> simp [h] at g3 ⊢
          rw [goB_mk g1 g2 this] at hg; exact absurd hg (by decide)
      rw [this, if_neg Bool.false_ne_true, if_neg Bool.false_ne_true]
      exact ⟨ag_0 L, z0⟩
    · rw [if_pos rfl]
      obtain ⟨g1, g2, g3⟩ := goB_spec hg
      have hi := root_item W (i := 0) (j := n) t0 (show t < nT G by omega) g1 (by decide) n0 n8
      have vS := (Q _ _ _ _ _ _ hi (Int.le_refl _)).1
      have r := sum_t u0 u1 hou I Q hi (Int.le_refl _) (gr_top I t0 (show t < nT G by omega) n0 n8) (by decide) (by decide)
      refine ⟨ag_P L t0 (by omega) vS, ?_⟩
      show Rt u 41 (sP' t _) _
      by_cases zx : S 1 (ft G t) 0 n (-1) (-1) = 0
      · have e0 : sP' t (S 1 (ft G t) 0 n (-1) (-1)) = 0 := by unfold sP'; rw [if_pos zx]
        rw [e0, r.1 zx, ite_self]
        exact z0
      · have q := sP_pk (by decide) (by decide) t0 (by omega) (r.2 zx).1
        have e := (PkB_f q.2 (by decide)).2.2.2.2
        refine ⟨fun z => absurd z e, fun _ => ⟨q.2, ?_⟩⟩
        generalize hx : S 1 (ft G t) 0 n (-1) (-1) = x at *
        have px := PkB_f (r.2 zx).1 (by decide)
        have a0 := f0_in x
        have c := f1_in x
        have b8 : (((2 ^ (8 : Int).toNat : Nat)) : Int) = 256 := by decide
        have o := or1_in (x := f0 x) (t := t) (n := 8) a0.1 (by decide) (by decide) (by rw [b8]; exact a0.2) t0 (by omega)
        have p := or1_in (x := f1 x) (t := t) (n := 8) c.1 (by decide) (by decide) (by rw [b8]; exact c.2) t0 (by omega)
        rw [b8] at o p
        have ff := (fld o.1 o.2 p.1 p.2 (show 0 ≤ f2 x + 1 by omega) (by omega) (show 0 ≤ f3 x + 1 by omega) (by omega)).2.1
        rw [q.1, ff, bit_or1 c.1 (by omega) t0 (by omega) u0 (by omega)]
        by_cases hu : u = t
        · have : goB G (ouB (i_or ob (i_shl 1 u))) t (lb G 0) 0 = false := by
            cases hg' : goB G (ouB (i_or ob (i_shl 1 u))) t (lb G 0) 0
            · rfl
            · have := (goB_spec hg').2.2
              rw [hou t t0 (by omega), decide_eq_true hu.symm, Bool.or_true] at this
              cases this
          rw [if_pos hu, this, if_neg Bool.false_ne_true]
          simp
        · have : goB G (ouB (i_or ob (i_shl 1 u))) t (lb G 0) 0 = true := goB_mk g1 g2 (by rw [hou t t0 (by omega), g3, decide_eq_false (fun z => hu z.symm)]; rfl)
          rw [if_neg hu, this, if_pos rfl]
          exact (r.2 zx).2
theorem sumV_z (I : GIn G) (n0 : 0 ≤ n) (n8 : n ≤ 8) : Rz 41 (sumV G ob n row) (stN G (ouB ob) row n) := sumS_z I (aFix_AEq I.1 (agS_law row) n) n0 n8
theorem sumV_t (I : GIn G) (o0 : 0 ≤ ob) (o1 : ob < 256) (n0 : 0 ≤ n) (n8 : n ≤ 8) {u : Int} (u0 : 0 ≤ u) (u1 : u < 8) : Rt u 41 (sumV G ob n row) (stN G (ouB (i_or ob (i_shl 1 u))) row n) := sumS_t I (aFix_AEq I.1 (agS_law row) n) o0 o1 n0 n8 u0 u1
/-- the summing up, kept or made -/
def SmF (h h' : Hp) : Prop := (∀ c s, (c ≠ 38 ∨ 4 ≤ s) → c ≠ 53 → c ≠ 54 → (c ≠ 0 ∨ (s ≠ 17 ∧ s ≠ 18)) → h' c s = h c s) ∧ h' 0 17 = i_or (h 0 17) 128
theorem vol_18 {c s : Int} (hv : volB c s = false) : c ≠ 0 ∨ (s ≠ 17 ∧ s ≠ 18) := by
  by_cases e : c = 0
  · right
    refine ⟨fun z => ?_, fun z => ?_⟩ <;> rw [e, z] at hv <;> exact absurd hv (by decide)
  · exact Or.inl e
theorem SmF.vol (F : SmF h h') : Vol h h' := fun c s hv => F.1 c s (vol_ns hv (fun s hs => by unfold volB; simp [hs])) (vol_ne hv (fun s => by unfold volB; simp)) (vol_ne hv (fun s => by unfold volB; simp)) (vol_18 hv)
theorem X_knowSummary_ok (B : BX h P G ob n row) (k0 : 0 ≤ h 0 17) (k1 : h 0 17 < 512) (hC : bit (h 0 17) 7 = 1 → h 0 18 = sumV G ob n row) : ∃ h', X_knowSummary 0 h = some h' ∧ SmF h h' ∧ h' 0 18 = sumV G ob n row := by
  have S := bx_sx B
  have oo := bx_ob B
  have nn := bx_n B
  have kP := bx_kP B
  have hP := bx_P B
  have W := bx_W B
  have b6 := and_pow (x := h 0 17) (t := 7) k0 (by omega) (by decide) (by decide)
  rw [show (((2 ^ (7 : Int).toNat : Nat)) : Int) = 128 by decide] at b6
  have e17 : ∀ c s, (c ≠ 0 ∨ s ≠ 17) → hput h 0 17 (i_or (h 0 17) 128) c s = h c s := by
    intro c s hc
    rcases hc with hc | hc
    · exact hput_ne1 hc
    · exact hput_ne2 hc
  have V1 : Vol h (hput h 0 17 (i_or (h 0 17) 128)) := fun c s hv => e17 c s (vol_17 hv)
  have B1 := BX_vol V1 B
  unfold X_knowSummary X_learns X_learns_j14
  rw [if_pos (by decide), if_pos (by decide), if_pos (by decide)]
  simp only
  by_cases hz : i_and (h 0 17) 128 = 0
  · rw [if_pos hz, if_pos (Or.inr rfl), ob_some]
    simp only
    rw [if_neg (by decide), e17 0 15 (by decide), bx_15 B, if_pos kP, e17 0 2 (by decide), sx_at S (show (0, 2, 5) ∈ shX by decide), if_pos (by decide), e17 0 9 (by decide), sx_at S (show (0, 9, 38) ∈ shX by decide), if_pos (by decide), e17 P 4 (Or.inl (by omega)), oo.1, e17 5 1 (by decide), nn.1, e17 0 6 (by decide), sx_at S (show (0, 6, 17) ∈ shX by decide)]
    generalize hg0 : hput h 0 17 (i_or (h 0 17) 128) = g0 at *
    have L := agS_law row
    have E := Ev_mk B1 (o := 38) (sz := n) (al := 17) (b := ob) (Or.inr rfl) oo.2.1 oo.2.2 nn.2.1 nn.2.2 L (by
      intro h' hc e1 e3
      have n5 : ∀ s, h' 5 s = g0 5 s := fun s => hc 5 s (by decide) (by decide) (by decide)
      have n6 : ∀ s, h' 6 s = g0 6 s := fun s => hc 6 s (by decide) (by decide) (by decide)
      have X := bx_L B1
      have X' : LetX h' n row := by
        unfold LetX at X ⊢
        simp only [n5, n6]
        exact X
      exact agS_R X' (by rw [hc 17 0 (by decide) (by decide) (by decide)]; exact sx_at (bx_sx B1) (by decide)) e3 (by omega))
    have Q := aFix_AEq (ou := ouB ob) W L n
    obtain ⟨g, e, go, gE, gT⟩ := Ch_fill_ok (Or.inr rfl) E Q (bx_G B).2.1
    have F := ChF_of go
    have S2 := ShX_vol (F.vol (Or.inr rfl)) (bx_sx B1)
    have g51 : g 5 1 = n := by rw [F 5 1 (by decide) (by decide) (by decide)]; exact (bx_n B1).1
    rw [e, ob_some, sx_at S2 (show (0, 2, 5) ∈ shX by decide), if_pos (by decide), sx_at S2 (show (0, 9, 38) ∈ shX by decide), if_pos (by decide), g51, atStart_gen gE Q gT nn.2.1 (Int.le_refl _), ob_some]
    refine ⟨_, rfl, ⟨?_, ?_⟩, by rw [hput_eq]; rfl⟩
    · intro c s h1 h2 h3 h4
      have h4' : c ≠ 0 ∨ s ≠ 17 := h4.elim Or.inl (fun z => Or.inr z.1)
      rw [show ∀ (f : Hp) (v : Int), hput f 0 18 v c s = f c s from fun f v => by
        rcases h4 with h4 | h4
        · exact hput_ne1 h4
        · exact hput_ne2 h4.2, F c s h1 h2 h3, e17 c s h4']
    · rw [hput_ne2 (by decide), F 0 17 (by decide) (by decide) (by decide), ← hg0, hput_eq]
  · have h1 : bit (h 0 17) 7 = 1 := by
      rcases bit_z (x := h 0 17) (t := 7) k0 (by omega) (by decide) (by decide) with z | z
      · exact absurd (b6.mpr z) hz
      · exact z
    rw [if_neg hz, if_pos (Or.inl rfl), ob_some]
    simp only [if_true]
    exact ⟨_, rfl, ⟨fun c s _ _ _ h4 => e17 c s (h4.elim Or.inl (fun z => Or.inr z.1)), by rw [hput_eq]⟩, by rw [e17 0 18 (by decide)]; exact hC h1⟩
def lenV (G : Gm) (ob n : Int) (row : Int → Int) (w : Int) : Int := if w < 0 ∨ 1 < w then -2 else if sumV G ob n row = 0 then -1 else if w = 0 then f2 (sumV G ob n row) else f3 (sumV G ob n row)
def useV (G : Gm) (ob n : Int) (row : Int → Int) (w : Int) : Int := if w < 0 ∨ 1 < w then -2 else if w = 0 then f0 (sumV G ob n row) else f1 (sumV G ob n row)
theorem X_lengths_ok (B : BX h P G ob n row) (k0 : 0 ≤ h 0 17) (k1 : h 0 17 < 512) (hC : bit (h 0 17) 7 = 1 → h 0 18 = sumV G ob n row) (w : Int) : ∃ h', X_lengths 0 w h = some (lenV G ob n row w, h') ∧ (h' = h ∨ (SmF h h' ∧ h' 0 18 = sumV G ob n row)) := by
  unfold X_lengths lenV
  by_cases h0 : w < 0
  · rw [if_pos h0, if_pos (Or.inl h0)]; exact ⟨h, rfl, Or.inl rfl⟩
  rw [if_neg h0]
  by_cases h1 : w ≤ 1
  · obtain ⟨g, e, F, v⟩ := X_knowSummary_ok B k0 k1 hC
    rw [if_pos h1, if_pos (by decide), e, ob_some, v, if_neg (show ¬ (w < 0 ∨ 1 < w) by omega)]
    refine ⟨g, ?_, Or.inr ⟨F, v⟩⟩
    by_cases hz : sumV G ob n row = 0
    · rw [if_pos hz, if_pos hz]
    · rw [if_neg hz, if_neg hz]
      by_cases hw : w = 0
      · rw [if_pos hw, if_pos hw]; rfl
      · rw [if_neg hw, if_neg hw]; rfl
  · rw [if_neg h1, if_pos (Or.inr (by omega))]; exact ⟨h, rfl, Or.inl rfl⟩
theorem X_used_ok (B : BX h P G ob n row) (k0 : 0 ≤ h 0 17) (k1 : h 0 17 < 512) (hC : bit (h 0 17) 7 = 1 → h 0 18 = sumV G ob n row) (w : Int) : ∃ h', X_used 0 w h = some (useV G ob n row w, h') ∧ (h' = h ∨ (SmF h h' ∧ h' 0 18 = sumV G ob n row)) := by
  unfold X_used useV
  by_cases h0 : w < 0
  · rw [if_pos h0, if_pos (Or.inl h0)]; exact ⟨h, rfl, Or.inl rfl⟩
  rw [if_neg h0]
  by_cases h1 : w ≤ 1
  · obtain ⟨g, e, F, v⟩ := X_knowSummary_ok B k0 k1 hC
    rw [if_pos h1, if_pos (by decide), e, ob_some, v, if_neg (show ¬ (w < 0 ∨ 1 < w) by omega)]
    refine ⟨g, ?_, Or.inr ⟨F, v⟩⟩
    by_cases hw : w = 0
    · rw [if_pos hw, if_pos hw]; rfl
    · rw [if_neg hw, if_neg hw]; rfl
  · rw [if_neg h1, if_pos (Or.inr (by omega))]; exact ⟨h, rfl, Or.inl rfl⟩
end
