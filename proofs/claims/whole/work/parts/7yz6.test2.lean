/-! test() of both, the whole -/
section
variable {h g : Hp} {P o8 n tl : Int} {G : Gm} {row tp : Int → Int}
theorem XTst.tr {a b c : Hp} (x : XTst a b) (y : XTst b c) : XTst a c := fun i s h1 h2 h3 h4 h5 h6 h7 h8 => by rw [y i s h1 h2 h3 h4 h5 h6 h7 h8, x i s h1 h2 h3 h4 h5 h6 h7 h8]
theorem MTst.tr {a b c : Hp} (x : MTst a b) (y : MTst b c) : MTst a c := fun i s h1 h2 h3 => by rw [y i s h1 h2 h3, x i s h1 h2 h3]
theorem BM_mt {g' : Hp} (B : BM g G o8 n row) (F : MTst g g') : BM g' G o8 n row := BM_eq B (fun s hs => F 121 s (Or.inr (by omega)) (by decide) (Or.inl (by decide))) (fun c s hc => F c s (Or.inl (by omega)) (by omega) (Or.inl (by omega)))
theorem SShp_mt {g' : Hp} (S : SShp g) (F : MTst g g') : SShp g' := by
  intro q hq
  have : ∀ q ∈ ssL, q.1 ≠ 20 ∧ q.1 ≠ 22 ∧ q.1 ≠ 23 ∧ q.1 ≠ 24 ∧ q.1 ≠ 25 ∧ q.1 ≠ 26 ∧ q.1 ≠ 48 ∧ q.1 ≠ 57 ∧ q.1 ≠ 58 ∧ q.1 ≠ 60 ∧ q.1 ≠ 61 := by decide
  rw [F 121 q.1 (Or.inr (this q hq)) (by decide) (Or.inl (by decide))]
  exact S q hq
theorem test_ok (B : BX h P G o8 n row) (Bg : BM g G o8 n row) (S : SShp g) (e56 : g 121 56 = 155) (e59 : g 121 59 = 156) (TX : TapX h tl tp) (TM : TapM g tl tp) {d : Nat} (hd : 1954 ≤ d) : ∃ v h' g', X_test 0 h = some (v, h') ∧ M_test d 121 g = some (v, g') ∧ XTst h h' ∧ MTst g g' ∧ h' 1 1 = 0 ∧ g' 121 20 = 0 ∧ ((h' 3 1 = h 3 1 ∧ (∀ s, h' 4 s = h 4 s) ∧ g' 121 57 = g 121 57 ∧ ∀ s, g' 155 s = g 155 s) ∨ ∃ wl wd, TolX h' wl wd ∧ TolM g' wl wd) := by
  have I := bx_G B
  have W := I.1
  have Sx := bx_sx B
  have bl0 : 0 ≤ blA tl tp 0 := (blA_le (tl := tl) (tp := tp) 0).1
  -- the class reads
  obtain ⟨b, h1, x1, fr1, e10, w1⟩ := readText_ok TX (sx_at Sx (by decide)) (sx_at Sx (by decide)) (sx_at Sx (by decide)) (sx_at Sx (by decide))
  have h100 : h1 0 0 = 1 := by rw [fr1 0 0 (Or.inl (by decide)) (by decide) (by decide) (by decide)]; exact sx_at Sx (by decide)
  rw [X_test_eq, if_pos (by decide), sx_at Sx (show (0, 4, 10) ∈ shX by decide), if_pos (by decide), sx_at Sx (show (0, 0, 1) ∈ shX by decide), x1, ob_some]
  show ∃ v h' g', xt1 b h1 = _ ∧ _
  unfold xt1
  rw [h100, if_pos (by decide)]
  generalize hh2 : hput h1 1 1 0 = h2
  have f12 : ∀ c s, (c ≠ 1 ∨ s ≠ 1) → h2 c s = h1 c s := by
    intro c s hc
    rw [← hh2]
    rcases hc with z | z
    · rw [hput_ne1 z]
    · rw [hput_ne2 z]
  have X2 : XTst h h2 := fun c s a1 a2 a3 a4 a5 a6 a7 a8 => by
    rw [f12 c s a1]
    exact fr1 c s (by omega) a5 a6 a7
  have t2 : h2 1 1 = 0 := by rw [← hh2, hput_eq]
  have o2 : h2 3 1 = h 3 1 ∧ ∀ s, h2 4 s = h 4 s := ⟨by rw [f12 3 1 (Or.inl (by decide))]; exact fr1 3 1 (Or.inl (by decide)) (by decide) (by decide) (by decide), fun s => by rw [f12 4 s (Or.inl (by decide))]; exact fr1 4 s (Or.inl (by decide)) (by decide) (by decide) (by decide)⟩
  have B2 := BX_vol X2.vol B
  have S2 := bx_sx B2
  -- the reference hears
  rw [M_test_eq, if_pos kK_121]
  generalize hg1 : hput (hput g 121 22 (g 121 20)) 121 20 0 = g1
  have fg1 : ∀ c s, (c ≠ 121 ∨ (s ≠ 20 ∧ s ≠ 22)) → g1 c s = g c s := by
    intro c s hc
    rw [← hg1]
    rcases hc with z | z
    · rw [hput_ne1 z, hput_ne1 z]
    · rw [hput_ne2 z.1, hput_ne2 z.2]
  have c20 : g1 121 20 = 0 := by rw [← hg1, hput_eq]
  have E1 : HeE g1 tl tp := by
    refine ⟨⟨by rw [← hg1, hput_ne2 (by decide), hput_eq]; exact TM.1, TX.2.1, TX.2.2.1⟩, by rw [fg1 121 19 (Or.inr (by decide))]; exact ms_at (bm_S Bg) (by decide), by rw [fg1 121 59 (Or.inr (by decide))]; exact e59, fun i i0 i1 => ?_⟩
    rw [fg1 135 i (Or.inl (by decide))]
    exact ⟨TM.2 i i0 i1, (TX.2.2.2 i i0 i1).2⟩
  obtain ⟨g2, y2, F2, w2⟩ := M_hears_ok E1
  have M2 : MTst g g2 := fun c s a1 a2 a3 => by
    rw [F2 c s (by omega) (by omega), fg1 c s (by omega)]
  have o20 : g2 121 20 = 0 := by rw [F2 121 20 (Or.inr (by decide)) (by decide)]; exact c20
  have og : g2 121 57 = g 121 57 ∧ ∀ s, g2 155 s = g 155 s := ⟨by rw [F2 121 57 (Or.inr (by decide)) (by decide), fg1 121 57 (Or.inr (by decide))], fun s => by rw [F2 155 s (Or.inl (by decide)) (by decide), fg1 155 s (Or.inl (by decide))]⟩
  rw [y2, ob_some]
  rcases w1 with ⟨ps, ep, eb, T1⟩ | ⟨ep, eb⟩
  · rcases w2 with ⟨ps', ep', e61, T2⟩ | ⟨ep', e61⟩
    · have eps : ps' = ps := by
        rw [ep] at ep'
        injection ep' with z
        exact z.symm
      subst eps
      obtain ⟨hv, l40, lp⟩ := parA_in TX.2.1 bl0 ep
      have Bg2 := BM_mt Bg M2
      have Sg2 := SShp_mt S M2
      have T1' : TrX h2 ps' := ⟨by rw [f12 10 4 (Or.inl (by decide))]; exact T1.1, fun i i0 i1 => by
        rw [f12 13 i (Or.inl (by decide)), f12 14 i (Or.inl (by decide)), f12 15 i (Or.inl (by decide))]
        exact T1.2 i i0 i1⟩
      obtain ⟨v, st, h3, x3, fr3, X3, bn, rs⟩ := put_cl B2 T1' l40 hv
      obtain ⟨v', st', g3, F3, R3, bn', rs', q0, q1⟩ := put_rf Bg2 Sg2 (by rw [F2 121 59 (Or.inr (by decide)) (by decide)]; exact E1.2.2.1) e61 T2 l40 hv d
      have est := Bnd_uniq bn' bn
      subst est
      have ev := resS_uniq rs' rs
      subst ev
      have XX : XTst h2 h3 := fun c s a1 a2 a3 a4 a5 a6 a7 a8 => fr3 c s (by omega) (by omega) (by omega)
      have MM : MTst g2 g3 := fun c s a1 a2 a3 => F3 c s (by omega) a2 (by omega) (by omega) (by omega) (by omega) (by omega) (by omega) (by omega)
      have t3 : h3 1 1 = 0 := by rw [fr3 1 1 (Or.inl (by decide)) (Or.inl (by decide)) (Or.inl (by decide))]; exact t2
      have o3 : h3 3 1 = h 3 1 ∧ ∀ s, h3 4 s = h 4 s := ⟨by rw [fr3 3 1 (Or.inl (by decide)) (Or.inl (by decide)) (Or.inl (by decide))]; exact o2.1, fun s => by rw [fr3 4 s (Or.inl (by decide)) (Or.inl (by decide)) (Or.inl (by decide))]; exact o2.2 s⟩
      have u20 : g3 121 20 = 0 := by rw [F3.c121 (by decide)]; exact o20
      have og3 : g3 121 57 = g 121 57 ∧ ∀ s, g3 155 s = g 155 s := ⟨by rw [F3.c121 (by decide)]; exact og.1, fun s => by rw [F3 155 s (Or.inl (by decide)) (by decide) (by decide) (by decide) (by decide) (by decide) (by decide) (by decide) (by decide)]; exact og.2 s⟩
      have xe : xt2 b h2 = xt3 v' h3 := by
        unfold xt2
        rw [if_neg (by omega), sx_at S2 (show (0, 4, 10) ∈ shX by decide), if_pos (by decide), bx_15 B2, sx_at S2 (show (0, 12, 72) ∈ shX by decide), x3, ob_some]
      rw [xe]
      by_cases hz : v' = 0
      · subst hz
        rw [q0 rfl]
        obtain ⟨full, k4⟩ : st'.length = ps'.length ∧ ∀ s, 0 ≤ s → s < (st'.length : Int) → ¬ lkQ G st' 4 0 s := by
          rcases rs with z | ⟨z1, r4, z2, z3⟩
          · omega
          · refine ⟨z1, ?_⟩
            rcases z3 with z3 | z3
            · omega
            · rcases z2 with z2 | z2
              · exact z2.2
              · omega
        obtain ⟨t0, hs, dv, A, db⟩ := tree_ex I bn.1 (by omega) k4
        have B3 := BX_vol XX.vol B2
        obtain ⟨u, h4, x4, X4, t4, p4, b4⟩ := unf_cl B3 X3 (by omega) (by omega) t0.1 t0.2 hs A db
        obtain ⟨u', g4, y4, M4, p4', m4⟩ := unf_rf I (BM_mt Bg2 MM) (SShp_mt Sg2 MM) R3 (by rw [F3.c121 (by decide), F2 121 56 (Or.inr (by decide)) (by decide), fg1 121 56 (Or.inr (by decide))]; exact e56) (by omega) (by omega) t0.1 t0.2 hs A db hd
        have eu : u' = u := by
          rcases p4 with ⟨z1, z2⟩ | ⟨z1, z2⟩
          · rcases p4' with ⟨w1, w2⟩ | ⟨w1, w2⟩
            · rw [z1, w1]
            · exact absurd z2 w2
          · rcases p4' with ⟨w1, w2⟩ | ⟨w1, w2⟩
            · exact absurd w2 z2
            · rw [z1, w1]
        subst eu
        have r := root_in W t0.1 t0.2
        have sh := At_Sh dv 0 1 (ft G (sEnt st' 0).1) A
        have bd := way_bd (st := st') I t0.1 t0.2 hs sh (by omega)
        have yin := uY_in W dv 0 1 (ft G (sEnt st' 0).1) [] r.1 r.2.1 r.2.2 A (fun e he => absurd he (List.not_mem_nil))
        have M4' : MTst g3 g4 := fun c s a1 a2 a3 => M4 c s (by omega) (by omega)
        refine ⟨u', h4, g4, x4, y4, (X2.tr XX).tr X4, (M2.tr MM).tr M4', by rw [t4]; exact t3, by rw [M4 121 20 (Or.inr (by decide)) (by decide)]; exact u20, Or.inr (tol_both ?_ ?_ b4 m4)⟩
        · rw [List.length_map, List.length_map]
          have := bd.2.2.2.1
          omega
        · intro x hx
          obtain ⟨y, hy, rfl⟩ := List.mem_map.mp hx
          obtain ⟨e, he, rfl⟩ := List.mem_map.mp hy
          have := yin e he
          omega
      · rw [q1 hz]
        have neg : ¬ 0 ≤ v' := by
          rcases rs with z | ⟨z1, r4, z2, z3⟩
          · omega
          · rcases z3 with z3 | ⟨z3, r0, z4, z5⟩
            · omega
            · omega
        unfold xt3
        rw [if_neg neg]
        exact ⟨v', h3, g3, rfl, rfl, X2.tr XX, M2.tr MM, t3, u20, Or.inl ⟨o3.1, o3.2, og3.1, og3.2⟩⟩
    · rw [ep] at ep'
      exact absurd ep' (by simp)
  · rcases w2 with ⟨ps', ep', e61, T2⟩ | ⟨ep', e61⟩
    · rw [ep] at ep'
      exact absurd ep' (by simp)
    · unfold xt2 mtq1
      rw [if_pos eb, if_pos e61]
      exact ⟨-4, h2, g2, rfl, rfl, X2, M2, t2, o20, Or.inl ⟨o2.1, o2.2, og.1, og.2⟩⟩
end
