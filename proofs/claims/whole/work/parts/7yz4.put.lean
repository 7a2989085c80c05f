/-! test: both put the steps together alike -/
def allN (ps : St) : Prop := ∀ i : Int, 0 ≤ i → i < (ps.length : Int) → 0 ≤ (sEnt ps i).2.1 ∧ 0 ≤ (sEnt ps i).2.2
theorem allN_cons {ps : St} {x : Int × Int × Int} (a : allN ps) (h1 : 0 ≤ x.2.1) (h2 : 0 ≤ x.2.2) : allN (x :: ps) := by
  intro i i0 i1
  have hl : (((x :: ps).length : Nat) : Int) = (ps.length : Int) + 1 := by show ((ps.length + 1 : Nat) : Int) = _; omega
  have ee : sEnt (x :: ps) i = if i = ps.length then x else sEnt ps i := rfl
  rw [ee]
  by_cases e : i = (ps.length : Int)
  · rw [if_pos e]; exact ⟨h1, h2⟩
  · rw [if_neg e]; exact a i i0 (by omega)
theorem parN_in {tl : Int} {tp : Int → Int} (t0 : 0 ≤ tl) : ∀ (f : Nat) (p : Int) (ps r : St), 0 ≤ p → allN ps → ps.length ≤ 40 → parN tl tp f p ps = some r → allN r ∧ r.length ≤ 40 ∧ ps.length ≤ r.length ∧ (p < tl → ps.length < r.length)
  | 0, p, ps, r, p0, a, l, e => by
    have : (none : Option St) = some r := e
    exact absurd this (by simp)
  | f + 1, p, ps, r, p0, a, l, e => by
    have e' : (if tl ≤ p then some ps else if 40 ≤ ps.length then none else match stepA tl tp ps.length p with
      | none => none
      | some (t, p') => parN tl tp f p' (t :: ps)) = some r := e
    by_cases h1 : tl ≤ p
    · rw [if_pos h1] at e'
      injection e' with e'
      subst e'
      exact ⟨a, l, Nat.le_refl _, fun z => by omega⟩
    · rw [if_neg h1] at e'
      by_cases h2 : 40 ≤ ps.length
      · rw [if_pos h2] at e'
        exact absurd e' (by simp)
      · rw [if_neg h2] at e'
        cases hs : stepA tl tp ps.length p with
        | none =>
          rw [hs] at e'
          exact absurd e' (by simp)
        | some x =>
          obtain ⟨t, p'⟩ := x
          rw [hs] at e'
          have si := stepA_in t0 p0 (show p ≤ tl by omega) hs
          have hl : (t :: ps).length = ps.length + 1 := rfl
          obtain ⟨b1, b2, b3, b4⟩ := parN_in t0 f p' (t :: ps) r si.1 (allN_cons a si.2.2.2.1.1 si.2.2.2.2.1) (by omega) e'
          exact ⟨b1, b2, by omega, fun _ => by omega⟩
theorem parA_in {tl : Int} {tp : Int → Int} {ps : St} (t0 : 0 ≤ tl) (b0 : 0 ≤ blA tl tp 0) (e : parA tl tp = some ps) : allN ps ∧ ps.length ≤ 40 ∧ 0 < ps.length := by
  unfold parA at e
  by_cases h1 : tl ≤ blA tl tp 0
  · rw [if_pos h1] at e
    exact absurd e (by simp)
  · rw [if_neg h1] at e
    have := parN_in t0 42 (blA tl tp 0) [] ps b0 (fun i i0 i1 => by have : (([] : St).length : Int) = 0 := rfl; omega) (by decide) e
    exact ⟨this.1, this.2.1, this.2.2.2 (by omega)⟩
def resS (G : Gm) (ps st : St) (v : Int) : Prop := (st.length < ps.length ∧ v = -100 - (st.length : Int)) ∨ (st.length = ps.length ∧ ∃ r4, lkF G st 4 0 r4 ∧ ((0 ≤ r4 ∧ v = -200 - r4) ∨ (r4 = -1 ∧ ∃ r0, lkF G st 0 2 r0 ∧ ((0 ≤ r0 ∧ v = -300 - r0) ∨ (r0 = -1 ∧ v = 0)))))
theorem resS_uniq {G : Gm} {ps st : St} {v v' : Int} (a : resS G ps st v) (b : resS G ps st v') : v = v' := by
  rcases a with a | ⟨a1, r4, a2, a3⟩
  · rcases b with b | b
    · omega
    · omega
  · rcases b with b | ⟨b1, q4, b2, b3⟩
    · omega
    · have := lkF_uniq a2 b2
      subst this
      rcases a3 with a3 | ⟨a3, r0, a4, a5⟩
      · rcases b3 with b3 | b3
        · omega
        · omega
      · rcases b3 with b3 | ⟨b3, q0, b4, b5⟩
        · omega
        · have := lkF_uniq a4 b4
          subst this
          omega
theorem lkF_neg {G : Gm} {st : St} {k m r : Int} (a : lkF G st k m r) : (r = -1 ∨ 0 ≤ r) ∧ r < (st.length : Int) + 1 := by
  rcases a with a | a
  · exact ⟨Or.inl a.1, by omega⟩
  · exact ⟨Or.inr a.1.1, by omega⟩
def pt2 (f : Hp) : Option (Int × Hp) := ob (SR_firstLacking 10 4 0 f) (fun r91 => if r91 = (-1) then ob (SR_firstLacking 10 0 2 f) (fun r109 => some ((if r109 = (-1) then 0 else w32 (((-300)) - r109)), f)) else some (w32 (((-200)) - r91), f))
def pt1 (f : Hp) : Option (Int × Hp) := ob (loopN (fun q => SR_putTogether_L19 10 q.1 q.2) LN (0, f)) (fun q => match q with
  | .inl e => some (w32 (((-100)) - e.1), e.2)
  | .inr e => pt2 e)
theorem putTogether_eq (p w : Int) (f : Hp) : SR_putTogether 10 p w f = if kK 10 = 6 then if kK ((hput (hput f 10 1 p) 10 2 w) 10 2) = 8 then ob (Wy_clear ((hput (hput f 10 1 p) 10 2 w) 10 2) (hput (hput f 10 1 p) 10 2 w)) (fun r => pt1 r) else none else none := rfl
def mtq4 (f : Hp) : Option (Int × Hp) := ob (M_isSentenceTold 121 f) (fun r => some ((if r = 0 then 0 else 1), f))
def mtq3 (d : Nat) (f : Hp) : Option (Int × Hp) := ob (M_tellsAbove (d - 1) 121 0 0 (hput (hput f 121 57 0) 121 58 1)) (fun r => mtq4 r)
def mtq2b (d : Nat) (f : Hp) : Option (Int × Hp) := ob (loopN (fun q => M_test_L127 d 121 f q) LN 0) (fun q => match q with
  | .inl e => some (w32 (((-300)) - e), f)
  | .inr _ => mtq3 d f)
def mtq2 (d : Nat) (f : Hp) : Option (Int × Hp) := ob (loopN (fun q => M_test_L96 d 121 f q) LN 0) (fun q => match q with
  | .inl e => some (w32 (((-200)) - e), f)
  | .inr _ => mtq2b d f)
def mtq1 (d : Nat) (f : Hp) : Option (Int × Hp) := if f 121 61 = 0 then some ((-4), f) else ob (loopN (fun q => M_test_L34 d 121 q.1 q.2) LN (0, hput f 121 48 0)) (fun q => match q with
  | .inl e => some (w32 (((-100)) - e.1), e.2)
  | .inr e => mtq2 d e)
theorem M_test_eq (d : Nat) (h : Hp) : M_test d 121 h = if kK 121 = 11 then ob (M_hears 121 (hput (hput h 121 22 (h 121 20)) 121 20 0)) (fun r => mtq1 d r) else none := rfl
section
variable {h g : Hp} {P o8 n : Int} {G : Gm} {row : Int → Int} {ps st : St}
theorem put_cl (B : BX h P G o8 n row) (T : TrX h ps) (l40 : ps.length ≤ 40) (hv : allN ps) : ∃ v st h', SR_putTogether 10 P 72 h = some (v, h') ∧ (∀ c s, (c ≠ 10 ∨ (s ≠ 1 ∧ s ≠ 2)) → (c ≠ 72 ∨ s ≠ 1) → (c < 73 ∨ 77 < c) → h' c s = h c s) ∧ XTab h' 72 st ∧ Bnd G (ouB o8) ps st ∧ resS G ps st v := by
  rw [putTogether_eq, if_pos (by decide), hput_eq, if_pos (by decide)]
  generalize hf : hput (hput h 10 1 P) 10 2 72 = f
  have ff : ∀ c s, (c ≠ 10 ∨ (s ≠ 1 ∧ s ≠ 2)) → f c s = h c s := by
    intro c s hc
    rw [← hf]
    rcases hc with z | z
    · rw [hput_ne1 z, hput_ne1 z]
    · rw [hput_ne2 z.2, hput_ne2 z.1]
  have V : Vol h f := fun c s hc => ff c s (by
    refine Classical.byContradiction (fun z => ?_)
    have z1 : c = 10 := by omega
    have z2 : s = 1 ∨ s = 2 := by omega
    rw [z1] at hc
    rcases z2 with z2 | z2
    · rw [z2] at hc; exact absurd hc (by decide)
    · rw [z2] at hc; exact absurd hc (by decide))
  have Bf := BX_vol V B
  have S := bx_sx Bf
  have WS : WyS f 72 := ⟨sx_at S (by decide), sx_at S (by decide), sx_at S (by decide), sx_at S (by decide), sx_at S (by decide)⟩
  obtain ⟨f1, x1, F1, X1⟩ := Wy_clear_ok (w := 72) (Or.inr rfl) WS
  have B1 := BX_vol (vol_72 F1) Bf
  have T1 : TrX f1 ps := ⟨by rw [F1.lo (by decide), ff 10 4 (Or.inr (by decide))]; exact T.1, fun i i0 i1 => by
    rw [F1.lo (by decide), F1.lo (by decide), F1.lo (by decide), ff 13 _ (Or.inl (by decide)), ff 14 _ (Or.inl (by decide)), ff 15 _ (Or.inl (by decide))]
    exact T.2 i i0 i1⟩
  have e1 : f1 10 1 = P := by rw [F1.lo (by decide), ← hf, hput_ne2 (by decide), hput_eq]
  have e2 : f1 10 2 = 72 := by rw [F1.lo (by decide), ← hf, hput_eq]
  obtain ⟨r, st, h', lp, F2, X2, bn, q⟩ := build_cl B1 e1 e2 T1 l40 hv X1
  have fr : ∀ c s, (c ≠ 10 ∨ (s ≠ 1 ∧ s ≠ 2)) → (c ≠ 72 ∨ s ≠ 1) → (c < 73 ∨ 77 < c) → h' c s = h c s := fun c s a b e => by
    rw [F2 c s b (by omega) (by omega) (by omega) (by omega) (by omega), F1 c s b (by omega) (by omega) (by omega) (by omega) (by omega), ff c s a]
  rw [x1, ob_some]
  unfold pt1
  rw [lp, ob_some]
  rcases q with ⟨rfl, q⟩ | ⟨rfl, q⟩
  · refine ⟨-100 - (st.length : Int), st, h', ?_, fr, X2, bn, Or.inl ⟨q, rfl⟩⟩
    show some (w32 (-100 - (st.length : Int)), h') = _
    rw [show w32 (-100 - (st.length : Int)) = -100 - (st.length : Int) by unfold w32; omega]
  · have B2 := BX_vol (vol_72 F2) B1
    have C : CbE h' P G o8 n row ps st := ⟨B2, ⟨by rw [F2.lo (by decide)]; exact e1, by rw [F2.lo (by decide)]; exact e2⟩, ⟨by rw [F2.lo (by decide)]; exact T1.1, fun i i0 i1 => by rw [F2.lo (by decide), F2.lo (by decide), F2.lo (by decide)]; exact T1.2 i i0 i1⟩, X2, (Bld_facts (bx_W B) bn.1).2, l40⟩
    obtain ⟨r4, y4, p4⟩ := lack_cl (k := 4) (m := 0) C q
    obtain ⟨r0, y0, p0⟩ := lack_cl (k := 0) (m := 2) C q
    have n4 := lkF_neg p4
    have n0 := lkF_neg p0
    show ∃ v st h'', pt2 h' = _ ∧ _
    unfold pt2
    rw [y4, ob_some, y0, ob_some]
    by_cases h4 : r4 = -1
    · rw [if_pos h4]
      by_cases h0 : r0 = -1
      · rw [if_pos h0]
        exact ⟨0, st, h', rfl, fr, X2, bn, Or.inr ⟨q, r4, p4, Or.inr ⟨h4, r0, p0, Or.inr ⟨h0, rfl⟩⟩⟩⟩
      · rw [if_neg h0, show w32 (-300 - r0) = -300 - r0 by unfold w32; omega]
        exact ⟨_, st, h', rfl, fr, X2, bn, Or.inr ⟨q, r4, p4, Or.inr ⟨h4, r0, p0, Or.inl ⟨by omega, rfl⟩⟩⟩⟩
    · rw [if_neg h4, show w32 (-200 - r4) = -200 - r4 by unfold w32; omega]
      exact ⟨_, st, h', rfl, fr, X2, bn, Or.inr ⟨q, r4, p4, Or.inl ⟨by omega, rfl⟩⟩⟩
theorem put_rf (B : BM g G o8 n row) (S : SShp g) (e59 : g 121 59 = 156) (e61 : g 121 61 = 1) (Tr : TrM g ps) (l40 : ps.length ≤ 40) (hv : allN ps) (d : Nat) : ∃ v st g', F5 g g' ∧ RTab g' st ∧ Bnd G (ouB o8) ps st ∧ resS G ps st v ∧ (v = 0 → mtq1 d g = mtq3 d g') ∧ (v ≠ 0 → mtq1 d g = some (v, g')) := by
  unfold mtq1
  rw [if_neg (by omega)]
  generalize hf : hput g 121 48 0 = f
  have Ff : F5 g f := by
    intro a i h1 _ _ _ _ _ _ _ _
    rw [← hf]
    rcases h1 with z | z
    · rw [hput_ne1 z]
    · rw [hput_ne2 z]
  have Bf := BM_ly B Ff.ly
  have Sf := SShp_5 Ff S
  have c156 : ∀ {g' : Hp}, F5 g g' → TrM g' ps := fun {g'} F => ⟨by rw [F.c121 (by decide)]; exact Tr.1, fun i i0 i1 => by
    have e : ∀ s, g' 156 s = g 156 s := fun s => F 156 s (Or.inl (by decide)) (by decide) (by decide) (by decide) (by decide) (by decide) (by decide) (by decide) (by decide)
    rw [e, e, e]
    exact Tr.2 i i0 i1⟩
  have T0 : RTab f [] := ⟨by rw [← hf, hput_eq]; rfl, fun s a b => by have : (([] : St).length : Int) = 0 := rfl; omega⟩
  obtain ⟨r, st, g', lp, F, T, bn, q⟩ := build_rf Bf Sf (by rw [Ff.c121 (by decide)]; exact e59) (c156 Ff) l40 hv T0 (d := d)
  have FF := Ff.tr F
  rw [lp, ob_some]
  rcases q with ⟨rfl, q⟩ | ⟨rfl, q⟩
  · refine ⟨-100 - (st.length : Int), st, g', FF, T, bn, Or.inl ⟨q, rfl⟩, fun z => by omega, fun _ => ?_⟩
    show some (w32 (-100 - (st.length : Int)), g') = _
    rw [show w32 (-100 - (st.length : Int)) = -100 - (st.length : Int) by unfold w32; omega]
  · have C : CpE g' G o8 n row ps st := ⟨BM_ly B FF.ly, SShp_5 FF S, T, by rw [FF.c121 (by decide)]; exact e59, c156 FF, (Bld_facts (bm_W B) bn.1).2, l40⟩
    obtain ⟨r4, y4, p4⟩ := lack4_rf (d := d) C q
    obtain ⟨r0, y0, p0⟩ := lack0_rf (d := d) C q
    show ∃ v st g'', _ ∧ _ ∧ _ ∧ _ ∧ (v = 0 → mtq2 d g' = _) ∧ (v ≠ 0 → mtq2 d g' = _)
    unfold mtq2
    rw [y4, ob_some]
    rcases p4 with ⟨rfl, p4⟩ | ⟨s, rfl, s0, p4⟩
    · show ∃ v st g'', _ ∧ _ ∧ _ ∧ _ ∧ (v = 0 → mtq2b d g' = _) ∧ (v ≠ 0 → mtq2b d g' = _)
      unfold mtq2b
      rw [y0, ob_some]
      rcases p0 with ⟨rfl, p0⟩ | ⟨s, rfl, s0, p0⟩
      · exact ⟨0, st, g', FF, T, bn, Or.inr ⟨q, -1, p4, Or.inr ⟨rfl, -1, p0, Or.inr ⟨rfl, rfl⟩⟩⟩, fun _ => rfl, fun z => absurd rfl z⟩
      · have nn := lkF_neg p0
        refine ⟨-300 - s, st, g', FF, T, bn, Or.inr ⟨q, -1, p4, Or.inr ⟨rfl, s, p0, Or.inl ⟨s0, rfl⟩⟩⟩, fun z => by omega, fun _ => ?_⟩
        show some (w32 (-300 - s), g') = _
        rw [show w32 (-300 - s) = -300 - s by unfold w32; omega]
    · have nn := lkF_neg p4
      refine ⟨-200 - s, st, g', FF, T, bn, Or.inr ⟨q, s, p4, Or.inl ⟨s0, rfl⟩⟩, fun z => by omega, fun _ => ?_⟩
      show some (w32 (-200 - s), g') = _
      rw [show w32 (-200 - s) = -200 - s by unfold w32; omega]
end
