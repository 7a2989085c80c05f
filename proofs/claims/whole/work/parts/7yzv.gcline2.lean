/-! grammar: the class reads a line, whole -/
section
variable {h h' h'' : Hp} {Q tl T b rl p N c k l t lab s : Int} {tp : Int → Int} {fo : Bool} {P A : List Int} {dd : Int → Dv}
theorem LRes_l {v q : Int} (x : v ≠ 0 ∧ h' 7 0 = v ∧ h' 7 1 = q ∧ (∃ T' N', CB h' Q T' N') ∧ LFr Q h h') : LRes h Q tl tp T N dd h' (.inl (v, q)) := x
theorem LRes_r {d : Dv} {q : Int} (x : CL h' Q tl tp (T + 1) (N + szT d) q (fun t => if t = T then d else dd t) ∧ LFr Q h h') : LRes h Q tl tp T N dd h' (.inr (d, q)) := x
theorem rtR_inv {z : PRs} {x : Dv} {q : Int} {fx : Bool} (e : rtR tl tp z = .inr (x, q, fx)) : ∃ p3, z = .inr (x, p3, fx) ∧ tpC tl tp p3 = 41 ∧ lckB x = false ∧ q = blA tl tp (p3 + 1) := by
  cases z with
  | inl z => exact absurd e (by unfold rtR; simp)
  | inr z =>
    obtain ⟨y, p3, fo1⟩ := z
    have e : (if tpC tl tp p3 = 41 then (if lckB y = true then .inl (4, p3) else .inr (y, blA tl tp (p3 + 1), fo1)) else .inl (1, p3) : PRs) = .inr (x, q, fx) := e
    by_cases h41 : tpC tl tp p3 = 41
    · rw [if_pos h41] at e
      by_cases hk : lckB y = true
      · rw [if_pos hk] at e; exact absurd e (by simp)
      · rw [if_neg hk] at e
        injection e with e
        injection e with e1 e2
        injection e2 with e2 e3
        subst e1
        subst e3
        exact ⟨p3, rfl, h41, by simpa using hk, e2.symm⟩
    · rw [if_neg h41] at e; exact absurd e (by simp)
set_option maxHeartbeats 1000000 in
theorem line_ok (L : CL h Q tl tp T N p dd) : ∃ h', GR_readLine 7 h = some h' ∧ LRes h Q tl tp T N dd h' (gL tl tp T N p) := by
  obtain ⟨E, ⟨B, LBh⟩, ⟨h4, h0, h1⟩, pp, TX, MI⟩ := L
  have E0 := E
  obtain ⟨X, e1, e2, e3, O, G⟩ := E
  have q22 := O.ge
  obtain ⟨g0, g1, g2⟩ := GrO_k O
  have t4 := X.2.2.1
  have B0 := B
  obtain ⟨tt, x0, x1, nn, xT, rows⟩ := B
  unfold GR_readLine gL
  rw [if_pos kK_7, e3, if_pos g0, x0]
  obtain ⟨v, ew, wv⟩ := gr_word E0 (by omega) (by omega)
  rw [ew, ob_some]
  rw [h4] at wv
  have bad : ∀ v : Int, v ≠ 0 → GR_refuse 7 v h = some (rfX h v) ∧ LRes h Q tl tp T N dd (rfX h v) (.inl (v, p)) := fun v hv => by
    refine ⟨gr_refuse v, LRes_l ⟨hv, (rfX_at v).1, ?_, ⟨T, N, B0.of7 O (Of7.rx v)⟩, (CFr.rx (T := T) v).lf⟩⟩
    rw [(rfX_at v).2]
    exact h4
  rcases wv with ⟨rfl, wd⟩ | ⟨rfl, wd⟩
  · have wb : wdB tl tp p = true := wdB_iff.mpr wd
    rw [if_neg (by decide), if_pos wb]
    by_cases hT : T < 8
    · rw [if_pos hT, if_pos hT]
      have p3 : p + 3 < tl := by
        by_cases z : p + 3 < tl
        · exact z
        · have := wd.2.2.2
          rw [tpC_out (by omega)] at this
          omega
      have bl := blA_le (tl := tl) (tp := tp) (p + 4)
      have b2 := bl.2.1 (by omega)
      have go : GR_goOn 7 4 h = some (hput h 7 4 (blA tl tp (p + 4))) := by
        rw [gr_goOn E0 (by omega) (by omega) (by decide) (by decide), h4]
      unfold lnR
      rw [go, ob_some]
      generalize hp1 : blA tl tp (p + 4) = p1 at bl b2
      have E1 : GrE (hput h 7 4 p1) Q tl tp := (CFr.p4 (T := T) p1).gre E0
      have s14 : (hput h 7 4 p1) 7 4 = p1 := hput_eq ..
      rw [gr_sign E1 (by rw [s14]; omega), ob_some, s14]
      by_cases h40 : tpC tl tp p1 = 40
      · rw [if_pos h40, if_pos h40]
        have z3 : (hput h 7 4 p1) 7 3 = Q := by rw [hput_ne2 (by decide)]; exact e3
        have zQ : ∀ i, (hput h 7 4 p1) Q i = h Q i := fun i => hput_ne1 (by omega)
        have op : Gr_openTree Q (hput h 7 4 p1) = some (hput (hput (hput h 7 4 p1) Q 0 (T + 1)) (Q + 1) (T + 1) N) := by
          unfold Gr_openTree
          rw [if_pos g0, zQ 0, x0, show w32 (T + 1) = T + 1 by unfold w32; omega]
          simp only
          rw [hput_ne2 (show (6 : Int) ≠ 0 by decide), zQ 6, G.1, hput_eq, hput_ne2 (show (1 : Int) ≠ 0 by decide), zQ 1, x1, if_pos (show kK (Q + 1) = 21 ∧ (0 : Int) ≤ T + 1 ∧ T + 1 < kL (Q + 1) from ⟨g1.1, by omega, by rw [g1.2]; omega⟩)]
        rw [z3, if_pos g0, op, ob_some]
        simp only
        have e3x : ∀ x s, x ≠ 7 → (x ≠ Q ∨ s ≠ 0) → (x ≠ Q + 1 ∨ s ≠ T + 1) → (hput (hput (hput (hput h 7 4 p1) Q 0 (T + 1)) (Q + 1) (T + 1) N) 7 5 (-1)) x s = h x s := fun x s a1 a2 a3 => by
          rw [hput_ne1 a1, hput_no a3, hput_no a2, hput_ne1 a1]
        have e37 : ∀ s, s ≠ 4 → s ≠ 5 → (hput (hput (hput (hput h 7 4 p1) Q 0 (T + 1)) (Q + 1) (T + 1) N) 7 5 (-1)) 7 s = h 7 s := fun s a1 a2 => by
          rw [hput_ne2 a2, hput_ne1 (by omega), hput_ne1 (by omega), hput_ne2 a1]
        have v74 : (hput (hput (hput (hput h 7 4 p1) Q 0 (T + 1)) (Q + 1) (T + 1) N) 7 5 (-1)) 7 4 = p1 := by
          rw [hput_ne2 (by decide), hput_ne1 (by omega), hput_ne1 (by omega), hput_eq]
        have v75 : (hput (hput (hput (hput h 7 4 p1) Q 0 (T + 1)) (Q + 1) (T + 1) N) 7 5 (-1)) 7 5 = -1 := hput_eq ..
        have vQ0 : (hput (hput (hput (hput h 7 4 p1) Q 0 (T + 1)) (Q + 1) (T + 1) N) 7 5 (-1)) Q 0 = T + 1 := by
          rw [hput_ne1 (by omega), hput_ne1 (by omega), hput_eq]
        have vT : (hput (hput (hput (hput h 7 4 p1) Q 0 (T + 1)) (Q + 1) (T + 1) N) 7 5 (-1)) (Q + 1) (T + 1) = N := by
          rw [hput_ne1 (by omega), hput_eq]
        generalize hput (hput (hput (hput h 7 4 p1) Q 0 (T + 1)) (Q + 1) (T + 1) N) 7 5 (-1) = h3 at e3x e37 v74 v75 vQ0 vT ⊢
        have F3 : LFr Q h h3 := fun c s a1 a2 a3 => by
          by_cases z : c = 7
          · rw [z]; exact e37 s (by omega) (by omega)
          · exact e3x c s z (by omega) (by omega)
        have C3 : CS h3 Q tl tp (T + 1) N 0 p1 N false := by
          refine ⟨F3.gre E0, ⟨⟨by omega, vQ0, by rw [e3x Q 1 (by omega) (by omega) (by omega)]; exact x1, nn, vT, fun n n0 n1 => ?_⟩, LB_eq LBh (e3x Q 5 (by omega) (by omega) (by omega)) (fun j i hj => e3x (Q + j) i (by omega) (by omega) (by omega))⟩, by omega, ?_, by omega, v74, by rw [e37 0 (by decide) (by decide)]; exact h0, ⟨by omega, b2, by rw [e37 1 (by decide) (by decide)]; exact h1⟩, fun z => by omega⟩
          · have r := rows n n0 n1
            rw [e3x (Q + 8) n (by omega) (by omega) (by omega), e3x (Q + 9) n (by omega) (by omega) (by omega), e3x (Q + 2) n (by omega) (by omega) (by omega), e3x (Q + 1) _ (by omega) (by omega) (by omega)]
            exact ⟨r.1, r.2.1, by omega⟩
          · rw [show T + 1 - 1 = T by omega, e3x (Q + 1) T (by omega) (by omega) (by omega)]; exact xT
        obtain ⟨h4', eo, fr4, D⟩ := opening_ok (P := []) (c := -1) C3 (by omega) v75 (Or.inl ⟨rfl, rfl, rfl⟩) rfl
        rw [eo, ob_some]
        generalize hp2 : blA tl tp (p1 + 1) = p2 at D
        rcases D with ⟨v, v0, d0, d1, dB, dg⟩ | ⟨li, rb, C4, c45, w4, E4, pl4, dg⟩
        · have dg' : gP tl tp 402 true N 0 p2 N false = .inl (v, p2) := dg 401
          have lp : loopN (fun q => GR_readLine_L69 7 q.1 q.2) LN (0, h4') = some h4' := loopL (k := 0) (s := (0, h4')) (s' := (0, h4')) rfl (bodyL_end (Or.inl (by rw [d0]; exact v0))) (by decide)
          rw [lp, ob_some, if_neg (by rw [d0]; exact v0), dg']
          refine ⟨_, rfl, LRes_l ⟨v0, d0, d1, ?_, F3.tr fr4.lf⟩⟩
          obtain ⟨N', hN'⟩ := dB
          exact ⟨_, N', hN'⟩
        · rw [if_pos rfl] at C4 dg
          have m2 : 0 ≤ mkA tl tp (blA tl tp (p2 + 1)) ∧ mkA tl tp (blA tl tp (p2 + 1)) ≤ 2 := by unfold mkA; split; decide; split <;> decide
          have bl2 := (blA_le (tl := tl) (tp := tp) (p1 + 1)).1
          obtain ⟨h5, lp, R5⟩ := root_loop C4 c45 w4 (by omega) m2 (by omega)
          have lp : loopN (fun q => GR_readLine_L69 7 q.1 q.2) LN (0, h4') = some h5 := lp
          have dg' : gP tl tp 402 true N 0 p2 N false = kdR tl tp 401 N (tpC tl tp p2 - 65) (mkP tl tp (blA tl tp (p2 + 1))) N false (tpC tl tp p2 - 65 + 26 * mkA tl tp (blA tl tp (p2 + 1))) := dg 401
          rw [lp, ob_some, dg']
          cases hk : rtR tl tp (kdR tl tp 401 N (tpC tl tp p2 - 65) (mkP tl tp (blA tl tp (p2 + 1))) N false (tpC tl tp p2 - 65 + 26 * mkA tl tp (blA tl tp (p2 + 1)))) with
          | inl z =>
            rw [hk] at R5
            obtain ⟨a1, a2, a3, a4, a5⟩ := TRes_l' R5
            rw [if_neg (by rw [a2]; exact a1)]
            refine ⟨_, rfl, LRes_l ⟨a1, a2, a3, ?_, (F3.tr fr4.lf).tr a5.lf⟩⟩
            obtain ⟨N', hN'⟩ := a4
            exact ⟨_, N', hN'⟩
          | inr z =>
            obtain ⟨x, q, fx⟩ := z
            rw [hk] at R5
            obtain ⟨C5, d5, E5, H5, tr5, fr5, pl5⟩ := TRes_r' R5
            have sz := szT_pos x
            have f50 := C5.2.2.2.2.2.2.1
            have pp5 := C5.2.2.2.2.2.2.2.1
            have rt := C5.2.2.2.2.2.2.2.2 (by omega)
            have F5 : LFr Q h h5 := (F3.tr fr4.lf).tr fr5.lf
            have G5 := C5.1.2.2.2.2.2
            have B5 := C5.2.1.1
            have b5T : h5 (Q + 1) T = N := by have := C5.2.2.2.1; rw [show T + 1 - 1 = T by omega] at this; exact this
            have s01 : (if fx = true then (1 : Int) else 0) = 0 ∨ (if fx = true then (1 : Int) else 0) = 1 := by split <;> decide
            have old : ∀ j n, 2 ≤ j → j ≤ 10 → 0 ≤ n → n < N → h5 (Q + j) n = h (Q + j) n := fun j n j0 j1 n0 n1 => by
              rw [Eff_old E5 (by omega) j0 j1 n0 n1, Eff_old E4 (by omega) j0 j1 n0 n1, e3x (Q + j) n (by omega) (by omega) (by omega)]
            have oldB : ∀ i, i ≤ T → h5 (Q + 1) i = h (Q + 1) i := fun i hi => by
              rw [fr5 (Q + 1) i (by omega) (by omega) (by omega) (by omega), fr4 (Q + 1) i (by omega) (by omega) (by omega) (by omega), e3x (Q + 1) i (by omega) (by omega) (by omega)]
            have oldQ : ∀ x s, Q ≤ x → (x = Q → s ≠ 0 ∧ s ≠ 1 ∧ s ≠ 5) → (x = Q ∨ Q + 10 < x) → h5 x s = h x s := fun x s a1 a2 a3 => by
              rw [fr5 x s (by omega) (by omega) (by omega) (by omega), fr4 x s (by omega) (by omega) (by omega) (by omega), e3x x s (by omega) (by omega) (by omega)]
            have cl := close_ok (s := if fx = true then 1 else 0) (lab := tpC tl tp p2 - 65) O G5 B5.2.1 tt.1 hT b5T (by omega) (by omega) rt.2 rt.1 (by omega) (by omega)
            have M5 : MkI h5 Q T := by
              obtain ⟨m2, m3, mt, ml⟩ := MI
              have bin : ∀ t, 0 ≤ t → t < T → 0 ≤ h (Q + 1) t ∧ h (Q + 1) t < N := fun t t0 t1 => by
                have a1 := TrL_in TX B0 t0 (by omega)
                have a2 := TrL_in TX B0 (t := t + 1) (by omega) (by omega)
                have a3 := (TX.2 t t0 t1).2.1
                have a4 := szT_pos (dd t)
                omega
              unfold MkI
              rw [oldQ Q 2 (by omega) (by omega) (by omega), oldQ Q 3 (by omega) (by omega) (by omega)]
              refine ⟨m2, m3, fun t t0 t1 => ?_, fun l l0 l1 => ?_⟩
              · by_cases z : t < T
                · rw [oldB t (by omega), old 10 _ (by decide) (by decide) (bin t t0 z).1 (bin t t0 z).2]
                  exact mt t t0 t1
                · have := mt t t0 t1
                  rw [if_neg (fun w => z w.1), if_neg (fun w => z w.1)] at this ⊢
                  exact this
              · rw [oldQ (Q + 12) l (by omega) (by omega) (by omega), oldQ (Q + 13) l (by omega) (by omega) (by omega)]
                refine ⟨(ml l l0 l1).1, fun t t0 t1 => ?_⟩
                by_cases z : t < T
                · rw [oldB t (by omega), old 10 _ (by decide) (by decide) (bin t t0 z).1 (bin t t0 z).2, old 4 _ (by decide) (by decide) (bin t t0 z).1 (bin t t0 z).2]
                  exact (ml l l0 l1).2 t t0 t1
                · have := (ml l l0 l1).2 t t0 t1
                  rw [if_neg (fun w => z w.1), if_neg (fun w => z w.1)] at this ⊢
                  exact this
            have M6 := MkI_cl M5 tt.1 hT b5T rt.2 s01 rt.1 (by omega) (by omega)
            have e6 : ∀ x i, (x ≠ Q ∨ (i ≠ 2 ∧ i ≠ 3)) → x ≠ Q + 12 → x ≠ Q + 13 → clH h5 Q T (tpC tl tp p2 - 65) (if fx = true then 1 else 0) x i = h5 x i := fun x i a1 a2 a3 => clH_no a1 a2 a3
            rw [if_pos f50]
            unfold GR_readLineEnd
            rw [if_pos kK_7, C5.1.2.2.2.1, if_pos g0, cl, ob_some]
            generalize clH h5 Q T (tpC tl tp p2 - 65) (if fx = true then 1 else 0) = h6 at M6 e6
            have F6 : LFr Q h5 h6 := fun c s a1 a2 a3 => e6 c s (by omega) (by omega) (by omega)
            have E6 : GrE h6 Q tl tp := F6.gre C5.1
            have h64 : h6 7 4 = q := by rw [e6 7 4 (by omega) (by omega) (by omega)]; exact C5.2.2.2.2.2.1
            have B6 : CB h6 Q (T + 1) (N + szT x) := CB_eq B5 (e6 Q 0 (by omega) (by omega) (by omega)) (e6 Q 1 (by omega) (by omega) (by omega)) (fun j i hj => e6 (Q + j) i (by omega) (by omega) (by omega))
            rw [gr_sign E6 (by rw [h64]; omega), ob_some, h64]
            simp only
            by_cases h59 : tpC tl tp q = 59
            · have qt : q < tl := by
                by_cases z : q < tl
                · exact z
                · rw [tpC_out (by omega)] at h59; omega
              have bl7 := blA_le (tl := tl) (tp := tp) (q + 1)
              have b72 := bl7.2.1 (by omega)
              rw [if_pos h59, if_pos h59, gr_goOn E6 (by omega) (by omega) (by decide) (by decide), ob_some, h64]
              generalize blA tl tp (q + 1) = q7 at bl7 b72
              have e7 : ∀ x i, x ≠ 7 → (hput h6 7 4 q7) x i = h6 x i := fun x i a => hput_ne1 a
              have e75 : ∀ x i, x ≠ 7 → (x ≠ Q ∨ (i ≠ 2 ∧ i ≠ 3)) → x ≠ Q + 12 → x ≠ Q + 13 → (hput h6 7 4 q7) x i = h5 x i := fun x i a a1 a2 a3 => by rw [e7 x i a, e6 x i a1 a2 a3]
              refine ⟨_, rfl, LRes_r ⟨⟨(CFr.p4 (T := T) q7).gre E6, ⟨B6.of7 O (Of7.pt 4 q7), ?_⟩, ⟨hput_eq .., ?_, ?_⟩, ⟨by omega, b72⟩, ?_, ?_⟩, (F5.tr F6).tr (CFr.p4 (T := T) q7).lf⟩⟩
              · exact LB_eq C5.2.1.2 (e75 Q 5 (by omega) (by omega) (by omega) (by omega)) (fun j i hj => e75 (Q + j) i (by omega) (by omega) (by omega) (by omega))
              · rw [hput_ne2 (by decide), e6 7 0 (by omega) (by omega) (by omega)]; exact f50
              · rw [hput_ne2 (by decide), e6 7 1 (by omega) (by omega) (by omega)]; exact pp5.2.2
              · have eB : ∀ i, (hput h6 7 4 q7) (Q + 1) i = h5 (Q + 1) i := fun i => e75 (Q + 1) i (by omega) (by omega) (by omega) (by omega)
                have e2' : ∀ i, (hput h6 7 4 q7) (Q + 2) i = h5 (Q + 2) i := fun i => e75 (Q + 2) i (by omega) (by omega) (by omega) (by omega)
                have eR : ∀ i n, 0 ≤ i → i < 8 → RX (hput h6 7 4 q7) Q i n = RX h5 Q i n := fun i n i0 i1 => e75 (Q + (3 + i)) n (by omega) (by omega) (by omega) (by omega)
                refine ⟨by rw [eB, oldB 0 tt.1]; exact TX.1, fun t t0 t1 => ?_⟩
                rw [eB, eB]
                by_cases z : t = T
                · subst z
                  simp only [if_true]
                  rw [b5T, B5.2.2.2.2.1]
                  refine ⟨Hd_eq x _ _ H5 (fun i n i0 i1 _ _ => eR i n i0 i1), rfl, fun n n0 n1 => ?_⟩
                  rw [e2', tr5 n n0 n1]
                  omega
                · simp only [if_neg z]
                  rw [oldB t (by omega), oldB (t + 1) (by omega)]
                  have u := TX.2 t t0 (by omega)
                  have i1' := TrL_in TX B0 t0 (by omega)
                  have i2' := TrL_in TX B0 (t := t + 1) (by omega) (by omega)
                  refine ⟨Hd_eq _ _ _ u.1 (fun i n i0 i1 n0 n1 => ?_), u.2.1, fun n n0 n1 => ?_⟩
                  · rw [eR i n i0 i1]
                    exact old (3 + i) n (by omega) (by omega) (by omega) (by omega)
                  · rw [e2', old 2 n (by decide) (by decide) (by omega) (by omega)]
                    exact u.2.2 n n0 n1
              · unfold MkI at M6 ⊢
                simp only [e7 Q _ (show Q ≠ 7 by omega), e7 (Q + 1) _ (show Q + 1 ≠ 7 by omega), e7 (Q + 4) _ (show Q + 4 ≠ 7 by omega), e7 (Q + 10) _ (show Q + 10 ≠ 7 by omega), e7 (Q + 12) _ (show Q + 12 ≠ 7 by omega), e7 (Q + 13) _ (show Q + 13 ≠ 7 by omega)]
                exact M6
            · rw [if_neg h59, if_neg h59, gr_refuse, ob_some]
              refine ⟨_, rfl, LRes_l ⟨by decide, (rfX_at 1).1, by rw [← h64]; exact (rfX_at 1).2, ⟨_, _, B6.of7 O (Of7.rx 1)⟩, (F5.tr F6).tr (CFr.rx (T := T) 1).lf⟩⟩
      · rw [if_neg h40, if_neg h40, gr_refuse, ob_some]
        have C1' : (rfX (hput h 7 4 p1) 1) 7 1 = p1 := by rw [(rfX_at 1).2]; exact s14
        exact ⟨_, rfl, LRes_l ⟨by decide, (rfX_at 1).1, C1', ⟨T, N, (B0.of7 O (Of7.pt 4 p1)).of7 O (Of7.rx 1)⟩, ((CFr.p4 (T := T) p1).tr (CFr.rx 1)).lf⟩⟩
    · rw [if_neg hT, if_neg hT, (bad 3 (by decide)).1, ob_some]
      exact ⟨_, rfl, (bad 3 (by decide)).2⟩
  · have wb : ¬ wdB tl tp p = true := fun z => wd (wdB_iff.mp z)
    rw [if_pos rfl, if_neg wb, (bad 1 (by decide)).1, ob_some]
    exact ⟨_, rfl, (bad 1 (by decide)).2⟩
end
