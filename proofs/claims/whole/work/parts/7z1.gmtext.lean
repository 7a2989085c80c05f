/-! grammar: the reference reads a tree, and all lines -/
def RTR (g : Hp) (tl : Int) (tp : Int → Int) (T N : Int) (g' : Hp) : (Int × Int) ⊕ (Dv × Int) → Prop
  | .inl z => z.1 ≠ 0 ∧ g' 121 27 = z.1 ∧ g' 121 28 = z.2 ∧ MFr N T g g'
  | .inr z => ∃ q, (0 ≤ q ∧ q < tl) ∧ z.2 = blA tl tp (q + 1) ∧ (g' 121 27 = 0 ∧ g' 121 28 = -1 ∧ g' 121 11 = T + 1 ∧ g' 121 12 = N + szT z.1) ∧ g' 122 (9 + T) = N ∧ Hd false (RM g') z.1 N (-1) ∧ g' 121 23 = q + 1 ∧ MFr N T g g'
section
variable {g g' g'' : Hp} {tl p N T : Int} {tp : Int → Int} {dd : Int → Dv}
theorem RTR_l {c P : Int} (x : c ≠ 0 ∧ g' 121 27 = c ∧ g' 121 28 = P ∧ MFr N T g g') : RTR g tl tp T N g' (.inl (c, P)) := x
theorem RTR_r {x : Dv} {P : Int} (y : ∃ q, (0 ≤ q ∧ q < tl) ∧ P = blA tl tp (q + 1) ∧ (g' 121 27 = 0 ∧ g' 121 28 = -1 ∧ g' 121 11 = T + 1 ∧ g' 121 12 = N + szT x) ∧ g' 122 (9 + T) = N ∧ Hd false (RM g') x N (-1) ∧ g' 121 23 = q + 1 ∧ MFr N T g g') : RTR g tl tp T N g' (.inr (x, P)) := y
theorem j125_121 {b s : Int} (h : s ≠ 11) : (j125H g T b) 121 s = g 121 s := by
  unfold j125H
  rw [hput_ne2 h, hput_ne1 (by decide)]
theorem readTree_ok {d : Nat} (L : ML g tl tp T N p dd) (wd : wdA tl tp p) (hT : T < 8) (hd : 420 ≤ d) : ∃ g', M_readTree d 121 g = some g' ∧ RTR g tl tp T N g' (lnR tl tp N p) := by
  obtain ⟨S, E, ⟨ok, f28, e11, e12⟩, tt, nn, pp, TX, e24, tk⟩ := L
  obtain ⟨k25, k23⟩ : g 121 25 = 1 ∧ g 121 23 = p + 4 := by
    rcases tk with z | z
    · exact z.2
    · exact absurd wd z.1
  have t4 := E.1.2.2
  have p3 : p + 3 < tl := by
    by_cases z : p + 3 < tl
    · exact z
    · have := wd.2.2.2
      rw [tpC_out (by omega)] at this
      omega
  have bl := blA_le (tl := tl) (tp := tp) (p + 4)
  have b2 := bl.2.1 (by omega)
  have c2 : ∀ c s, (c ≠ 121 ∨ (s ≠ 29 ∧ s ≠ 30)) → (hput (hput g 121 29 N) 121 30 (-1)) c s = g c s := fun c s z => by rw [hput_no (by omega), hput_no (by omega)]
  have v29 : (hput (hput g 121 29 N) 121 30 (-1)) 121 29 = N := by rw [hput_ne2 (by decide), hput_eq]
  have v30 : (hput (hput g 121 29 N) 121 30 (-1)) 121 30 = -1 := hput_eq ..
  unfold M_readTree M_readTree_j18
  rw [if_pos kK_121, e11, if_neg (by omega), if_pos kK_121, good_y ok, ob_some, if_neg (by decide), e12]
  simp only
  generalize hput (hput g 121 29 N) 121 30 (-1) = g2 at c2 v29 v30 ⊢
  have F2 : MFr N T g g2 := fun c s h1 _ _ => c2 c s (by omega)
  have E2 := F2.he E
  obtain ⟨g3, a3, F3, T3⟩ := advance_ok E2 (p := p + 4) (by rw [c2 121 23 (Or.inr (by decide))]; exact k23) (by omega) (by omega)
  rw [a3, ob_some]
  unfold lnR
  generalize hp1 : blA tl tp (p + 4) = p1 at bl b2 T3
  have F23 : MFr N T g g3 := F2.tr (GFr.tk F3).mf
  have E3 := F23.he E
  have S3 := F23.ms S
  have at3 : ∀ s, s ≠ 23 → s ≠ 24 → s ≠ 25 → s ≠ 26 → g3 121 s = g2 121 s := fun s a1 a2 a3 a4 => F3 121 s (Or.inr ⟨a1, a2, a3, a4⟩)
  have at2 : ∀ s, s ≠ 29 → s ≠ 30 → g2 121 s = g 121 s := fun s a1 a2 => c2 121 s (Or.inr ⟨a1, a2⟩)
  have ok3 : g3 121 27 = 0 := by rw [at3 27 (by decide) (by decide) (by decide) (by decide), at2 27 (by decide) (by decide)]; exact ok
  have x11 : g3 121 11 = T := by rw [at3 11 (by decide) (by decide) (by decide) (by decide), at2 11 (by decide) (by decide)]; exact e11
  have x12 : g3 121 12 = N := by rw [at3 12 (by decide) (by decide) (by decide) (by decide), at2 12 (by decide) (by decide)]; exact e12
  have x28 : g3 121 28 = -1 := by rw [at3 28 (by decide) (by decide) (by decide) (by decide), at2 28 (by decide) (by decide)]; exact f28
  have x29 : g3 121 29 = N := by rw [at3 29 (by decide) (by decide) (by decide) (by decide)]; exact v29
  have x30 : g3 121 30 = -1 := by rw [at3 30 (by decide) (by decide) (by decide) (by decide)]; exact v30
  -- behind a fault
  have badj : ∀ e : Hp, e 121 27 ≠ 0 → MShp e → e 121 11 = T → e 121 29 = N → M_readTree_j62 d 121 e = some (j125H e T N) := by
    intro e he Se h11 h29
    unfold M_readTree_j62
    rw [if_pos kK_121, good_n he, ob_some, if_pos rfl, j94_bad Se he h11 h29 tt.1 hT]
  by_cases h40 : tpC tl tp p1 = 40
  · rw [if_pos h40]
    obtain ⟨g4, a4, F4, T4, q0, q1⟩ := takes_y E3 T3 ok3 (by omega) (Or.inl rfl) h40
    have at4 : ∀ s, s ≠ 23 → s ≠ 24 → s ≠ 25 → s ≠ 26 → g4 121 s = g3 121 s := fun s a1 a2 a3 a4 => F4 121 s (Or.inr ⟨a1, a2, a3, a4⟩)
    have F24 : MFr N T g g4 := F23.tr (GFr.tk F4).mf
    have ok4 : g4 121 27 = 0 := by rw [at4 27 (by decide) (by decide) (by decide) (by decide)]; exact ok3
    rw [a4, ob_some, good_y ok4, ob_some, if_neg (by decide)]
    generalize hp2 : blA tl tp (p1 + 1) = p2 at q0 q1 T4 ⊢
    have M4 : MPre g4 tl tp N 0 p2 N false := by
      refine ⟨F24.ms S, F24.he E, T4, ok4, ?_, ?_, by omega, fun z => by omega, ⟨fun _ => ?_, fun z => absurd z (by decide)⟩, by omega, q1⟩
      · rw [at4 12 (by decide) (by decide) (by decide) (by decide)]; exact x12
      · rw [at4 29 (by decide) (by decide) (by decide) (by decide)]; exact x29
      · rw [at4 30 (by decide) (by decide) (by decide) (by decide)]; exact x30
    have I := read_ok 402 true N 0 p2 N false (d - 1) (-1) g4 M4 (fun z => absurd z (by decide)) (by decide) (by omega) (by omega)
    have I : MRes g4 tl tp N (-1) (M_readBranch (d - 1) 121 (-1) g4) (gP tl tp 402 true N 0 p2 N false) := I
    cases hx : gP tl tp 402 true N 0 p2 N false with
    | inl z =>
      rw [hx] at I
      obtain ⟨v, g5, o5, z0, z1, z2, F5⟩ := MRes_l' I
      have F25 : MFr N T g g5 := F24.tr F5.mf
      have bad : g5 121 27 ≠ 0 := by rw [z1]; exact z0
      have y11 : g5 121 11 = T := by rw [F5 121 11 (Or.inr (by decide)) (Or.inl (by decide)), at4 11 (by decide) (by decide) (by decide) (by decide)]; exact x11
      have y29 : g5 121 29 = N := by rw [F5 121 29 (Or.inr (by decide)) (Or.inl (by decide)), at4 29 (by decide) (by decide) (by decide) (by decide)]; exact x29
      rw [o5, ob_some]
      simp only
      rw [badj g5 bad (F25.ms S) y11 y29]
      exact ⟨_, rfl, RTR_l ⟨z0, by rw [j125_121 (by decide)]; exact z1, by rw [j125_121 (by decide)]; exact z2, F25.tr j125_fr⟩⟩
    | inr z =>
      obtain ⟨x, p3', fx⟩ := z
      rw [hx] at I
      obtain ⟨g5, o5, ok5, e5, T5, fm5, H5, F5, t5, q28⟩ := MRes_r' I
      have gi := gP_in (tl := tl) (tp := tp) 402 true N 0 p2 N false x p3' fx (by omega) hx
      have F25 : MFr N T g g5 := F24.tr F5.mf
      have E5 := F25.he E
      have S5 := F25.ms S
      have y11 : g5 121 11 = T := by rw [F5 121 11 (Or.inr (by decide)) (Or.inl (by decide)), at4 11 (by decide) (by decide) (by decide) (by decide)]; exact x11
      have y29 : g5 121 29 = N := by rw [F5 121 29 (Or.inr (by decide)) (Or.inl (by decide)), at4 29 (by decide) (by decide) (by decide) (by decide)]; exact x29
      have y28 : g5 121 28 = -1 := by rw [q28, at4 28 (by decide) (by decide) (by decide) (by decide)]; exact x28
      rw [o5, ob_some]
      show ∃ g', M_readTree_j62 d 121 g5 = some g' ∧ RTR g tl tp T N g' (match (if tpC tl tp p3' = 41 then (if lckB x = true then .inl (4, p3') else .inr (x, blA tl tp (p3' + 1), fx)) else .inl (1, p3') : PRs) with
        | .inl e => .inl e
        | .inr (x, q, _) => if tpC tl tp q = 59 then .inr (x, blA tl tp (q + 1)) else .inl (1, q))
      unfold M_readTree_j62
      rw [if_pos kK_121, good_y ok5, ob_some, if_neg (by decide), tk_sign T5 ok5 (Or.inr (Or.inl rfl)), ob_some]
      by_cases h41 : tpC tl tp p3' = 41
      · rw [if_pos h41, if_neg (by decide), lettered_ok S5 H5 e5 y29 (by omega) (by omega), ob_some, if_pos h41]
        by_cases hk : lckB x = true
        · have e27 : (errG g5 4 p3') 121 27 ≠ 0 := by rw [errG_27]; decide
          have Fe : MFr N T g (errG g5 4 p3') := F25.tr (GFr.err (N := N)).mf
          have c11 : (errG g5 4 p3') 121 11 = T := by rw [GFr.err (N := N) 121 11 (Or.inr (by decide)) (Or.inl (by decide))]; exact y11
          have c29 : (errG g5 4 p3') 121 29 = N := by rw [GFr.err (N := N) 121 29 (Or.inr (by decide)) (Or.inl (by decide))]; exact y29
          rw [if_pos hk, if_pos rfl, T5.1, errs_y ok5, ob_some, j94_bad (Fe.ms S) e27 c11 c29 tt.1 hT, if_pos hk]
          exact ⟨_, rfl, RTR_l ⟨by decide, by rw [j125_121 (by decide)]; exact errG_27 .., by rw [j125_121 (by decide)]; exact errG_28 .., Fe.tr j125_fr⟩⟩
        · rw [if_neg hk, if_neg (by decide), if_neg hk]
          obtain ⟨g6, a6, F6, T6, r0, r1⟩ := takes_y E5 T5 ok5 (by omega) (Or.inr (Or.inl rfl)) h41
          have at6 : ∀ s, s ≠ 23 → s ≠ 24 → s ≠ 25 → s ≠ 26 → g6 121 s = g5 121 s := fun s a1 a2 a3 a4 => F6 121 s (Or.inr ⟨a1, a2, a3, a4⟩)
          have ok6 : g6 121 27 = 0 := by rw [at6 27 (by decide) (by decide) (by decide) (by decide)]; exact ok5
          have F26 : MFr N T g g6 := F25.tr (GFr.tk F6).mf
          have w11 : g6 121 11 = T := by rw [at6 11 (by decide) (by decide) (by decide) (by decide)]; exact y11
          have w29 : g6 121 29 = N := by rw [at6 29 (by decide) (by decide) (by decide) (by decide)]; exact y29
          unfold M_readTree_j94
          rw [if_pos kK_121, a6, ob_some, good_y ok6, ob_some, if_neg (by decide), tk_sign T6 ok6 (Or.inr (Or.inr (Or.inl rfl))), ob_some]
          generalize hq : blA tl tp (p3' + 1) = q at T6 r0 r1
          show ∃ g', _ = some g' ∧ RTR g tl tp T N g' (if tpC tl tp q = 59 then .inr (x, blA tl tp (q + 1)) else .inl (1, q))
          by_cases h59 : tpC tl tp q = 59
          · have qt : q < tl := by
              by_cases z : q < tl
              · exact z
              · rw [tpC_out (by omega)] at h59; omega
            rw [if_pos h59, if_neg (by decide), j125_ok (F26.ms S) w11 w29 tt.1 hT, if_pos h59]
            refine ⟨_, rfl, RTR_r ⟨q, ⟨by omega, qt⟩, rfl, ⟨by rw [j125_121 (by decide)]; exact ok6, ?_, ?_, ?_⟩, ?_, ?_, ?_, F26.tr j125_fr⟩⟩
            · rw [j125_121 (by decide), at6 28 (by decide) (by decide) (by decide) (by decide)]; exact y28
            · unfold j125H; rw [hput_eq]
            · rw [j125_121 (by decide), at6 12 (by decide) (by decide) (by decide) (by decide)]; exact e5
            · unfold j125H; rw [hput_ne1 (by decide), hput_eq]
            · refine Hd_eq x _ _ H5 (fun i n i0 _ _ _ => ?_)
              have : RM (j125H g6 T N) i n = RM g6 i n := by
                unfold RM j125H
                by_cases h6 : 6 ≤ i
                · rw [if_pos h6, if_pos h6]
                · rw [hput_ne1 (show 123 + i ≠ 121 by omega), hput_ne1 (show 123 + i ≠ 122 by omega)]
              rw [this, RM_tk F6 i0]
            · rw [j125_121 (by decide), T6.2.2.2, if_neg (by omega)]
          · have e27 : (errG g6 1 q) 121 27 ≠ 0 := by rw [errG_27]; decide
            have Fe : MFr N T g (errG g6 1 q) := F26.tr (GFr.err (N := N)).mf
            have c11 : (errG g6 1 q) 121 11 = T := by rw [GFr.err (N := N) 121 11 (Or.inr (by decide)) (Or.inl (by decide))]; exact w11
            have c29 : (errG g6 1 q) 121 29 = N := by rw [GFr.err (N := N) 121 29 (Or.inr (by decide)) (Or.inl (by decide))]; exact w29
            rw [if_neg h59, if_pos rfl, T6.1, errs_y ok6, ob_some, j125_ok (Fe.ms S) c11 c29 tt.1 hT, if_neg h59]
            exact ⟨_, rfl, RTR_l ⟨by decide, by rw [j125_121 (by decide)]; exact errG_27 .., by rw [j125_121 (by decide)]; exact errG_28 .., Fe.tr j125_fr⟩⟩
      · rw [if_neg h41, if_pos rfl, if_neg h41]
        have e27 : (errG g5 1 p3') 121 27 ≠ 0 := by rw [errG_27]; decide
        have Fe : MFr N T g (errG g5 1 p3') := F25.tr (GFr.err (N := N)).mf
        have c11 : (errG g5 1 p3') 121 11 = T := by rw [GFr.err (N := N) 121 11 (Or.inr (by decide)) (Or.inl (by decide))]; exact y11
        have c29 : (errG g5 1 p3') 121 29 = N := by rw [GFr.err (N := N) 121 29 (Or.inr (by decide)) (Or.inl (by decide))]; exact y29
        unfold M_readTree_j94
        rw [if_pos kK_121, takes_n T5 ok5 (Or.inr (Or.inl rfl)) h41, ob_some, good_n e27, ob_some, if_pos rfl, j125_ok (Fe.ms S) c11 c29 tt.1 hT]
        exact ⟨_, rfl, RTR_l ⟨by decide, by rw [j125_121 (by decide)]; exact errG_27 .., by rw [j125_121 (by decide)]; exact errG_28 .., Fe.tr j125_fr⟩⟩
  · have e27 : (errG g3 1 p1) 121 27 ≠ 0 := by rw [errG_27]; decide
    have Fe : MFr N T g (errG g3 1 p1) := F23.tr (GFr.err (N := N)).mf
    have c11 : (errG g3 1 p1) 121 11 = T := by rw [GFr.err (N := N) 121 11 (Or.inr (by decide)) (Or.inl (by decide))]; exact x11
    have c29 : (errG g3 1 p1) 121 29 = N := by rw [GFr.err (N := N) 121 29 (Or.inr (by decide)) (Or.inl (by decide))]; exact x29
    rw [if_neg h40, takes_n T3 ok3 (Or.inl rfl) h40, ob_some, good_n e27, ob_some, if_pos rfl, badj _ e27 (Fe.ms S) c11 c29]
    exact ⟨_, rfl, RTR_l ⟨by decide, by rw [j125_121 (by decide)]; exact errG_27 .., by rw [j125_121 (by decide)]; exact errG_28 .., Fe.tr j125_fr⟩⟩
theorem readTree_bad {d : Nat} (bad : g 121 27 ≠ 0) : M_readTree d 121 g = some g := by
  unfold M_readTree M_readTree_j18
  rw [if_pos kK_121, errs_n bad, ob_some, if_pos kK_121, good_n bad, ob_some, if_pos rfl]
  split <;> rfl
theorem mline_ok {d : Nat} (L : ML g tl tp T N p dd) (pt : p < tl) (hd : 421 ≤ d) : ∃ g', M_grammar_L42 d 121 g = some (.inl g') ∧ MLR g tl tp T N dd g' (gL tl tp T N p) := by
  have L0 := L
  obtain ⟨S, E, ⟨ok, f28, e11, e12⟩, tt, nn, pp, TX, e24, tk⟩ := L
  have tpp : tpC tl tp p ≠ -1 := by unfold tpC; rw [if_pos ⟨pp.1, pt⟩]; omega
  have t4 := E.1.2.2
  unfold M_grammar_L42 gL
  rw [if_pos kK_121, good_y ok, ob_some, if_neg (by decide)]
  by_cases wd : wdA tl tp p
  · have k25 : g 121 25 = 1 := by
      rcases tk with z | z
      · exact z.2.1
      · exact absurd wd z.1
    rw [k25, if_neg (by decide), if_pos rfl, if_pos (wdB_iff.mpr wd)]
    unfold M_grammar_j73
    rw [if_pos kK_121]
    by_cases hT : T < 8
    · rw [if_pos hT]
      obtain ⟨g1, e1, R1⟩ := readTree_ok (d := d - 1) L0 wd hT (by omega)
      rw [e1, ob_some]
      cases hx : lnR tl tp N p with
      | inl z =>
        rw [hx] at R1
        obtain ⟨a1, a2, a3, a4⟩ := R1
        rw [good_n (by rw [a2]; exact a1), ob_some, if_pos rfl]
        exact ⟨g1, rfl, a1, a2, a3, a4⟩
      | inr z =>
        obtain ⟨x, q'⟩ := z
        rw [hx] at R1
        obtain ⟨q, qb, hq', ⟨a1, a2, a3, a4⟩, aB, H, a23, F1⟩ := R1
        have gl := gL_ok (T := T) (N := N) (p := p) (x := x) (q := q') pp.1 (by unfold gL; rw [if_pos (wdB_iff.mpr wd), if_pos hT]; exact hx)
        have E1 := F1.he E
        obtain ⟨g2, e2, F2, b24, bt⟩ := advanceLine_ok E1 a23 (by omega) (by omega)
        have F12 : MFr N T g g2 := F1.tr (GFr.tk F2).mf
        have bl := blA_le (tl := tl) (tp := tp) (q + 1)
        have bq := bl.2.1 (by omega)
        simp only at hq' H a4
        rw [← hq'] at bl bq b24 bt
        rw [good_y a1, ob_some, if_neg (by decide), e2, ob_some]
        have at2 : ∀ s, s ≠ 23 → s ≠ 24 → s ≠ 25 → s ≠ 26 → g2 121 s = g1 121 s := fun s a1 a2 a3 a4 => F2 121 s (Or.inr ⟨a1, a2, a3, a4⟩)
        refine ⟨g2, rfl, ⟨F12.ms S, F12.he E, ⟨?_, ?_, ?_, ?_⟩, by omega, by simp only; omega, by simp only; omega, ?_, b24, bt⟩, F12⟩
        · rw [at2 27 (by decide) (by decide) (by decide) (by decide)]; exact a1
        · rw [at2 28 (by decide) (by decide) (by decide) (by decide)]; exact a2
        · rw [at2 11 (by decide) (by decide) (by decide) (by decide)]; exact a3
        · rw [at2 12 (by decide) (by decide) (by decide) (by decide)]; exact a4
        · obtain ⟨Bs, B0, BT, Br⟩ := TX
          refine ⟨fun t => if t = T + 1 then N + szT x else Bs t, ?_, if_pos rfl, fun t t0 t1 => ?_⟩
          · simp only; rw [if_neg (by omega)]; exact B0
          · simp only
            rw [if_neg (show ¬ t = T + 1 by omega)]
            by_cases z : t = T
            · rw [z, if_pos rfl, if_pos rfl, BT, F2 122 (9 + T) (Or.inl (by decide))]
              refine ⟨aB, Hd_eq x _ _ H (fun i n i0 _ _ _ => RM_tk F2 i0), rfl, by omega, by omega⟩
            · obtain ⟨r1, r2, r3, r4, r5⟩ := Br t t0 (by omega)
              rw [if_neg z, if_neg (show ¬ t + 1 = T + 1 by omega), F12 122 (9 + t) (Or.inl (by decide)) (Or.inl (by decide)) (Or.inr (by omega))]
              refine ⟨r1, Hd_eq _ _ _ r2 (fun i n i0 i1 n0 n1 => ?_), r3, r4, by omega⟩
              unfold RM
              by_cases h6 : 6 ≤ i
              · rw [if_pos h6, if_pos h6]
              · rw [F12 (123 + i) (40 + n) (Or.inl (by omega)) (by omega) (Or.inl (by omega))]
    · rw [if_neg hT]
      have hT8 : T = 8 := by omega
      have e27 : (errG g 3 p) 121 27 ≠ 0 := by rw [errG_27]; decide
      have rt : M_readTree (d - 1) 121 g = some (errG g 3 p) := by
        unfold M_readTree M_readTree_j18
        rw [if_pos kK_121, e11, if_pos hT8, e24, errs_y ok, ob_some, if_pos kK_121, good_n e27, ob_some, if_pos rfl]
      rw [rt, ob_some, good_n e27, ob_some, if_pos rfl]
      exact ⟨_, rfl, (show (3 : Int) ≠ 0 by decide), errG_27 .., errG_28 .., (GFr.err (N := N)).mf⟩
  · have k25 : g 121 25 = 5 := by
      rcases tk with z | z
      · exact absurd z.1 wd
      · rw [z.2.1, if_neg tpp]
    have e27 : (errG g 1 p) 121 27 ≠ 0 := by rw [errG_27]; decide
    rw [k25, if_neg (by decide), if_neg (by decide), e24, errs_y ok, ob_some, if_neg (fun z => wd (wdB_iff.mp z))]
    unfold M_grammar_j73
    rw [if_pos kK_121, readTree_bad e27, ob_some, good_n e27, ob_some, if_pos rfl]
    exact ⟨_, rfl, (show (1 : Int) ≠ 0 by decide), errG_27 .., errG_28 .., (GFr.err (N := N)).mf⟩
def M0Fr (g g' : Hp) : Prop := MFr 0 0 g g'
def MXR (g : Hp) (tl : Int) (tp : Int → Int) (g' : Hp) : (Int × Int) ⊕ (Int × Int × (Int → Dv)) → Prop
  | .inl z => z.1 ≠ 0 ∧ g' 121 27 = z.1 ∧ g' 121 28 = z.2 ∧ M0Fr g g'
  | .inr z => (∃ p, ML g' tl tp z.1 z.2.1 p z.2.2) ∧ M0Fr g g'
theorem MFr.m0 (F : MFr N T g g') (N0 : 0 ≤ N) (T0 : 0 ≤ T) : M0Fr g g' := fun c s h1 h2 h3 => F c s h1 (by omega) (by omega)
theorem L42_end {d : Nat} (h0 : g 121 27 ≠ 0 ∨ g 121 25 = 0) : M_grammar_L42 d 121 g = some (.inr g) := by
  unfold M_grammar_L42
  rw [if_pos kK_121]
  by_cases z : g 121 27 = 0
  · rw [good_y z, ob_some, if_neg (by decide), if_pos (h0.resolve_left (fun w => w z))]
  · rw [good_n z, ob_some, if_pos rfl]
theorem mtext_ok {d : Nat} (hd : 421 ≤ d) : ∀ (k m : Nat) (T N p : Int) (dd : Int → Dv) (g : Hp), ML g tl tp T N p dd → T + k = 9 → k + 2 ≤ m → ∃ g', loopN (fun q => M_grammar_L42 d 121 q) m g = some g' ∧ MXR g tl tp g' (gT tl tp k T N p dd)
  | 0, m, T, N, p, dd, g, L, hT, hm => by
    have := L.2.2.2.1
    omega
  | k + 1, m, T, N, p, dd, g, L, hT, hm => by
    obtain ⟨m, rfl⟩ : ∃ j, m = j + 2 := ⟨m - 2, by omega⟩
    unfold gT
    by_cases hp : tl ≤ p
    · rw [if_pos hp]
      have tpp : tpC tl tp p = -1 := tpC_out hp
      have k25 : g 121 25 = 0 := by
        rcases L.2.2.2.2.2.2.2.2 with z | z
        · have := z.1.1; omega
        · rw [z.2.1, if_pos tpp]
      exact ⟨g, loopN_end (L42_end (Or.inr k25)), ⟨p, L⟩, fun _ _ _ _ _ => rfl⟩
    · rw [if_neg hp]
      obtain ⟨g1, e1, R1⟩ := mline_ok L (by omega) hd
      have bd : (fun q : Hp => M_grammar_L42 d 121 q) g = some (.inl g1) := e1
      rw [loopN_go bd]
      cases hx : gL tl tp T N p with
      | inl z =>
        rw [hx] at R1
        obtain ⟨a1, a2, a3, a4⟩ := R1
        exact ⟨g1, loopN_end (L42_end (Or.inl (show g1 121 27 ≠ 0 by rw [a2]; exact a1))), a1, a2, a3, a4.m0 L.2.2.2.2.1.1 L.2.2.2.1.1⟩
      | inr z =>
        obtain ⟨x, q⟩ := z
        rw [hx] at R1
        obtain ⟨L1, F1⟩ := R1
        have F1 := F1.m0 L.2.2.2.2.1.1 L.2.2.2.1.1
        obtain ⟨g2, e2, R2⟩ := mtext_ok hd k (m + 1) (T + 1) (N + szT x) q _ g1 L1 (by omega) (by omega)
        refine ⟨g2, e2, ?_⟩
        simp only
        simp only at R2
        revert R2
        cases gT tl tp k (T + 1) (N + szT x) q (fun t => if t = T then x else dd t) with
        | inl z => exact fun ⟨a1, a2, a3, a4⟩ => ⟨a1, a2, a3, MFr.tr F1 a4⟩
        | inr z => exact fun ⟨a1, a2⟩ => ⟨a1, MFr.tr F1 a2⟩
end
