/-! test: whether a step may be there: the reference -/
section
variable {h g : Hp} {P o8 n : Int} {G : Gm} {row : Int → Int} {ps st : St}
def CpE (g : Hp) (G : Gm) (o8 n : Int) (row : Int → Int) (ps st : St) : Prop := BM g G o8 n row ∧ SShp g ∧ RTab g st ∧ g 121 59 = 156 ∧ TrM g ps ∧ TrS G ps st ∧ ps.length ≤ 40
theorem one01 {x : Int} (h : x = 0 ∨ x = 1) (n : ¬ x = 0) : x = 1 := by omega
theorem isGuest_bm (B : BM g G o8 n row) {t : Int} (t0 : 0 ≤ t) (t1 : t < nT G) : M_isGuest 121 t g = some (sp G (ft G t)) := by
  have W := bm_W B
  have nt := wf_nt W
  have r := root_in W t0 t1
  have sw := (wf_sp W r.1 r.2.1).1
  have e := ((bm_X B).2.2.2.2.2 t t0 t1).2.1
  unfold M_isGuest
  rw [if_pos kK_121, ms_at (bm_S B) (show ((16 : Int), (132 : Int)) ∈ msL by decide), if_pos ⟨kK_132, t0, by rw [kL_132]; omega⟩]
  congr 1
  by_cases hz : g 132 t = -1
  · rw [if_pos hz, e.mp hz]
  · rw [if_neg hz]
    have : ¬ sp G (ft G t) = 0 := fun z => hz (e.mpr z)
    omega
theorem root_bm (B : BM g G o8 n row) {t : Int} (t0 : 0 ≤ t) (t1 : t < nT G) : M_root 121 t g = some (ft G t) := by
  have nt := wf_nt (bm_W B)
  unfold M_root
  rw [if_pos kK_121, ms_at (bm_S B) (show ((4 : Int), (122 : Int)) ∈ msL by decide), if_pos ⟨kK_122, t0, by rw [kL_122]; omega⟩, (bm_X B).2.2.2.1 t t0 (by omega)]
theorem j184_ok (C : CpE g G o8 n row ps st) {t a b s0 : Int} (t0 : 0 ≤ t) (t1 : t < nT G) (a0 : 0 ≤ a) (a1 : a < (st.length : Int)) (b0 : 0 ≤ b) (b1 : b < ft G ((sEnt st a).1 + 1) - ft G (sEnt st a).1) : ∃ v, M_canPut_j184 121 t a b (ndS G st a b) s0 g = some v ∧ ((v = 1 ∧ s0 ≠ 0 ∧ lb G (ft G t) = lb G (ndS G st a b) ∧ sPut st a b = -1) ∨ (v = 0 ∧ ¬ (s0 ≠ 0 ∧ lb G (ft G t) = lb G (ndS G st a b) ∧ sPut st a b = -1))) := by
  obtain ⟨B, S, T, e59, Tr, Ts, l40⟩ := C
  have W := bm_W B
  have nn := wf_nn W
  have ta := Ts.2 a a0 a1
  obtain ⟨m0, m1, m2, m3, m4⟩ := ndS_in W ta.2.1 ta.2.2 b0 b1
  have r := root_in W t0 t1
  have gx := (bm_X B).2.2.2.2.1 (ndS G st a b) m0 m1
  have gr := (bm_X B).2.2.2.2.1 (ft G t) r.1 r.2.1
  have hn1 : ndS G st a b < nN G := m1
  have hn0 : 0 ≤ ndS G st a b := m0
  have sl := Ts.1
  unfold M_canPut_j184 M_canPut_j226
  by_cases hs : s0 = 0
  · rw [if_pos hs]
    exact ⟨0, rfl, Or.inr ⟨rfl, fun z => z.1 hs⟩⟩
  · rw [if_neg hs, if_pos kK_121, ms_at (bm_S B) (show ((6 : Int), (124 : Int)) ∈ msL by decide), if_pos ⟨kK_124, hn0, by rw [kL_124]; omega⟩, root_bm B t0 t1, ob_some, if_pos (show kK 124 = 21 ∧ (0 : Int) ≤ ft G t ∧ ft G t < kL 124 from ⟨kK_124, r.1, by rw [kL_124]; have := r.2.1; omega⟩), gx.2.1, gr.2.1, M_put_ok S T (by omega) a0 a1 b0 m3, ob_some]
    by_cases hl : lb G (ndS G st a b) = lb G (ft G t)
    · rw [if_pos hl]
      by_cases hp : sPut st a b = -1
      · rw [if_pos hp]
        exact ⟨1, rfl, Or.inl ⟨rfl, hs, hl.symm, hp⟩⟩
      · rw [if_neg hp]
        exact ⟨0, rfl, Or.inr ⟨rfl, fun z => hp z.2.2⟩⟩
    · rw [if_neg hl]
      exact ⟨0, rfl, Or.inr ⟨rfl, fun z => hl z.2.1.symm⟩⟩
theorem canPut_ok (C : CpE g G o8 n row ps st) (hi : st.length < ps.length) (hv : 0 ≤ (sEnt ps st.length).2.1 ∧ 0 ≤ (sEnt ps st.length).2.2) : ∃ v, M_canPut 121 st.length g = some v ∧ ((v = 1 ∧ okS G (ouB o8) st (sEnt ps st.length).1 (sEnt ps st.length).2.1 (sEnt ps st.length).2.2) ∨ (v = 0 ∧ ¬ okS G (ouB o8) st (sEnt ps st.length).1 (sEnt ps st.length).2.1 (sEnt ps st.length).2.2)) ∧ (v = 1 → g 156 (3 * (st.length : Int)) = (sEnt ps st.length).1 ∧ (st.length ≠ 0 → g 156 (3 * (st.length : Int) + 1) = (sEnt ps st.length).2.1 ∧ g 156 (3 * (st.length : Int) + 2) = (sEnt ps st.length).2.2)) := by
  have C' := C
  obtain ⟨B, S, T, e59, Tr, Ts, l40⟩ := C
  have W := bm_W B
  have nt := wf_nt W
  have nn := wf_nn W
  have i0 : (0 : Int) ≤ (st.length : Int) := by omega
  have i1 : (st.length : Int) < (ps.length : Int) := by omega
  have tr := Tr.2 (st.length : Int) i0 i1
  generalize hx : sEnt ps (st.length : Int) = x at tr hv
  obtain ⟨t, a, b⟩ := x
  simp only at tr hv
  generalize ht' : g 156 (3 * (st.length : Int)) = t' at tr
  generalize ha' : g 156 (3 * (st.length : Int) + 1) = a' at tr
  generalize hb' : g 156 (3 * (st.length : Int) + 2) = b' at tr
  have kl : kL 156 = 120 := kL_156
  have w0 : w32 (3 * (st.length : Int)) = 3 * (st.length : Int) := by unfold w32; omega
  have w1 : w32 (3 * (st.length : Int) + 1) = 3 * (st.length : Int) + 1 := by unfold w32; omega
  have w2 : w32 (3 * (st.length : Int) + 2) = 3 * (st.length : Int) + 2 := by unfold w32; omega
  have y0 : kK 156 = 21 ∧ (0 : Int) ≤ 3 * (st.length : Int) ∧ 3 * (st.length : Int) < kL 156 := ⟨kK_156, by omega, by rw [kl]; omega⟩
  have y1 : kK 156 = 21 ∧ (0 : Int) ≤ 3 * (st.length : Int) + 1 ∧ 3 * (st.length : Int) + 1 < kL 156 := ⟨kK_156, by omega, by rw [kl]; omega⟩
  have y2 : kK 156 = 21 ∧ (0 : Int) ≤ 3 * (st.length : Int) + 2 ∧ 3 * (st.length : Int) + 2 < kL 156 := ⟨kK_156, by omega, by rw [kl]; omega⟩
  have sl := Ts.1
  show ∃ v, M_canPut 121 st.length g = some v ∧ ((v = 1 ∧ okS G (ouB o8) st t a b) ∨ (v = 0 ∧ ¬ okS G (ouB o8) st t a b)) ∧ (v = 1 → t' = t ∧ (st.length ≠ 0 → a' = a ∧ b' = b))
  unfold M_canPut M_canPut_j83 M_canPut_j156 M_canPut_j183
  rw [if_pos kK_121, e59, w0, if_pos y0, w1, if_pos y1, w2, if_pos y2, ht', ha', hb', M_isTree_ok B, ob_some]
  have no : ∀ (z : Prop), ¬ okS G (ouB o8) st t a b → ∃ v, (some (0 : Int)) = some v ∧ ((v = 1 ∧ okS G (ouB o8) st t a b) ∨ (v = 0 ∧ ¬ okS G (ouB o8) st t a b)) ∧ (v = 1 → t' = t ∧ (st.length ≠ 0 → a' = a ∧ b' = b)) := fun _ z => ⟨0, rfl, Or.inr ⟨rfl, z⟩, fun w => absurd w (by decide)⟩
  by_cases htv : 0 ≤ t' ∧ t' < nT G
  · have et : t' = t := by
      rcases tr.1 with z | z
      · exact z
      · omega
    subst et
    rw [if_pos htv, if_neg (by decide), M_isOut_ok B htv.1 (by omega), ob_some]
    cases hu : ouB o8 t'
    · rw [if_neg Bool.false_ne_true, if_pos rfl, isGuest_bm B htv.1 htv.2]
      by_cases hz : (st.length : Int) = 0
      · have hz' : st.length = 0 := by omega
        have r := root_in W htv.1 htv.2
        have gr := (bm_X B).2.2.2.2.1 (ft G t') r.1 r.2.1
        have st1 := wf_step W (t := 0) (by decide) (by omega)
        have fi := ft_in W (t := 1) (by decide) (by omega)
        have f0 := (wf_ft W).1
        rw [show (0 : Int) + 1 = 1 by decide] at st1
        have g0' := (bm_X B).2.2.2.2.1 0 (by decide) (by omega)
        have ms : M_start 121 g = some (lb G 0) := by
          unfold M_start
          rw [if_pos kK_121, (bm_X B).1, if_neg (by omega), ms_at (bm_S B) (show ((6 : Int), (124 : Int)) ∈ msL by decide), if_pos ⟨kK_124, by decide, by rw [kL_124]; decide⟩, g0'.2.1]
        rw [if_pos hz, ob_some]
        by_cases hs : sp G (ft G t') = 0
        · rw [if_pos hs, root_bm B htv.1 htv.2, ob_some, ms_at (bm_S B) (show ((6 : Int), (124 : Int)) ∈ msL by decide), if_pos (show kK 124 = 21 ∧ (0 : Int) ≤ ft G t' ∧ ft G t' < kL 124 from ⟨kK_124, r.1, by rw [kL_124]; have := r.2.1; omega⟩), ms, ob_some, gr.2.1]
          by_cases hl : lb G (ft G t') = lb G 0
          · rw [if_pos hl]
            exact ⟨1, rfl, Or.inl ⟨rfl, htv, hu, Or.inl ⟨hz', hs, hl⟩⟩, fun _ => ⟨rfl, fun z => absurd hz' z⟩⟩
          · rw [if_neg hl]
            refine no True ?_
            rintro ⟨-, -, z | z⟩
            · exact hl z.2.2
            · exact z.1 hz'
        · rw [if_neg hs]
          refine no True ?_
          rintro ⟨-, -, z | z⟩
          · exact hs z.2.1
          · exact z.1 hz'
      · have hz' : ¬ st.length = 0 := by omega
        have tr2 := tr.2.2 hz
        rw [if_neg hz]
        by_cases hal : (st.length : Int) ≤ a'
        · rw [if_pos hal]
          refine no True ?_
          rintro ⟨-, -, z | z⟩
          · exact hz' z.1
          · have := z.2.1.2
            rcases tr2.1 with w | w <;> omega
        · have ea : a' = a := by
            rcases tr2.1 with w | w
            · exact w
            · omega
          subst ea
          have ta := Ts.2 a' hv.1 (by omega)
          have q148 : g 148 a' = (sEnt st a').1 := (T.2 a' hv.1 (by omega)).1
          rw [if_neg hal, ss_at S (show ((49 : Int), (148 : Int)) ∈ ssL by decide), if_pos (show kK 148 = 21 ∧ (0 : Int) ≤ a' ∧ a' < kL 148 from ⟨kK_148, hv.1, by rw [kL_148]; omega⟩), q148, M_nodesOf_ok B ta.2.1 ta.2.2, ob_some]
          by_cases hbl : b' < ft G ((sEnt st a').1 + 1) - ft G (sEnt st a').1
          · have sw := (wf_step W ta.2.1 ta.2.2).2
            have eb : b' = b := by
              rcases tr2.2 with w | w
              · exact w
              · omega
            subst eb
            obtain ⟨m0, m1, m2, m3, m4⟩ := ndS_in W ta.2.1 ta.2.2 hv.2 hbl
            have hn0 : 0 ≤ ndS G st a' b' := m0
            have hn1 : ndS G st a' b' < nN G := m1
            have gx := (bm_X B).2.2.2.2.1 (ndS G st a' b') m0 m1
            have ewn : w32 (ft G (sEnt st a').1 + b') = ndS G st a' b' := by unfold ndS w32; omega
            have eft : g 122 (sEnt st a').1 = ft G (sEnt st a').1 := (bm_X B).2.2.2.1 _ ta.2.1 (by omega)
            obtain ⟨v1, x1, p1⟩ := j184_ok (s0 := 1) C' htv.1 htv.2 hv.1 (show a' < (st.length : Int) by omega) hv.2 hbl
            obtain ⟨v0, x0, p0⟩ := j184_ok (s0 := 0) C' htv.1 htv.2 hv.1 (show a' < (st.length : Int) by omega) hv.2 hbl
            have r0 : v0 = 0 := by
              rcases p0 with z | z
              · exact absurd rfl z.2.1
              · exact z.1
            subst r0
            have spt := (wf_sp W (root_in W htv.1 htv.2).1 (root_in W htv.1 htv.2).2.1).1
            have yes : (kd G (ndS G st a' b') = 0 ∧ mk G (ndS G st a' b') ≠ 1 ∧ sp G (ft G t') = 1) ∨ (kd G (ndS G st a' b') = 4 ∧ sp G (ft G t') = 0) → ∃ v, some v1 = some v ∧ ((v = 1 ∧ okS G (ouB o8) st t' a' b') ∨ (v = 0 ∧ ¬ okS G (ouB o8) st t' a' b')) ∧ (v = 1 → t' = t' ∧ (st.length ≠ 0 → a' = a' ∧ b' = b')) := by
              intro hc
              rcases p1 with ⟨z1, -, z3, z4⟩ | ⟨z1, z2⟩
              · subst z1
                refine ⟨1, rfl, Or.inl ⟨rfl, htv, hu, Or.inr ⟨hz', ⟨hv.1, by omega⟩, ⟨hv.2, hbl⟩, z4, ?_⟩⟩, fun _ => ⟨rfl, fun _ => ⟨rfl, rfl⟩⟩⟩
                rcases hc with hc | hc
                · exact Or.inl ⟨hc.1, hc.2.1, hc.2.2, z3⟩
                · exact Or.inr ⟨hc.1, hc.2, z3⟩
              · subst z1
                refine ⟨0, rfl, Or.inr ⟨rfl, ?_⟩, fun w => absurd w (by decide)⟩
                rintro ⟨-, -, z | z⟩
                · exact hz' z.1
                · refine z2 ⟨by decide, ?_, z.2.2.2.1⟩
                  rcases z.2.2.2.2 with w | w
                  · exact w.2.2.2
                  · exact w.2.2
            have bad : ¬ ((kd G (ndS G st a' b') = 0 ∧ mk G (ndS G st a' b') ≠ 1 ∧ sp G (ft G t') = 1) ∨ (kd G (ndS G st a' b') = 4 ∧ sp G (ft G t') = 0)) → ∃ v, some (0 : Int) = some v ∧ ((v = 1 ∧ okS G (ouB o8) st t' a' b') ∨ (v = 0 ∧ ¬ okS G (ouB o8) st t' a' b')) ∧ (v = 1 → t' = t' ∧ (st.length ≠ 0 → a' = a' ∧ b' = b')) := by
              intro hc
              refine ⟨0, rfl, Or.inr ⟨rfl, ?_⟩, fun w => absurd w (by decide)⟩
              rintro ⟨-, -, z | z⟩
              · exact hz' z.1
              · rcases z.2.2.2.2 with w | w
                · exact hc (Or.inl ⟨w.1, w.2.1, w.2.2.1⟩)
                · exact hc (Or.inr ⟨w.1, w.2.1⟩)
            rw [if_pos hbl, ms_at (bm_S B) (show ((4 : Int), (122 : Int)) ∈ msL by decide), if_pos (show kK 122 = 21 ∧ (0 : Int) ≤ (sEnt st a').1 ∧ (sEnt st a').1 < kL 122 from ⟨kK_122, ta.2.1, by rw [kL_122]; omega⟩), eft, ewn, ms_at (bm_S B) (show ((5 : Int), (123 : Int)) ∈ msL by decide), if_pos (show kK 123 = 21 ∧ (0 : Int) ≤ ndS G st a' b' ∧ ndS G st a' b' < kL 123 from ⟨kK_123, hn0, by rw [kL_123]; omega⟩), gx.1, ob_some, ms_at (bm_S B) (show ((7 : Int), (125 : Int)) ∈ msL by decide), if_pos (show kK 125 = 21 ∧ (0 : Int) ≤ ndS G st a' b' ∧ ndS G st a' b' < kL 125 from ⟨kK_125, hn0, by rw [kL_125]; omega⟩), gx.2.2.1, ob_some, x1, x0]
            by_cases k0 : kd G (ndS G st a' b') = 0
            · rw [if_pos k0]
              by_cases hs : sp G (ft G t') = 0
              · rw [if_pos hs]
                exact bad (by omega)
              · rw [if_neg hs]
                by_cases hm : mk G (ndS G st a' b') = 1
                · rw [if_pos hm]
                  exact bad (by omega)
                · rw [if_neg hm]
                  exact yes (Or.inl ⟨k0, hm, one01 spt hs⟩)
            · rw [if_neg k0]
              by_cases k4 : kd G (ndS G st a' b') = 4
              · rw [if_pos k4]
                by_cases hs : sp G (ft G t') = 0
                · rw [if_pos hs]
                  exact yes (Or.inr ⟨k4, hs⟩)
                · rw [if_neg hs]
                  exact bad (by omega)
              · rw [if_neg k4]
                exact bad (by omega)
          · rw [if_neg hbl]
            refine no True ?_
            rintro ⟨-, -, z | z⟩
            · exact hz' z.1
            · have zb := z.2.2.1.2
              have sw := (wf_step W ta.2.1 ta.2.2).2
              rcases tr2.2 with w | w <;> omega
    · rw [if_pos rfl, if_neg (by decide)]
      refine no True ?_
      rintro ⟨-, z, -⟩
      rw [hu] at z
      exact absurd z (by decide)
  · rw [if_neg htv, if_pos rfl]
    refine no True (fun z => htv ?_)
    have := z.1
    rcases tr.1 with w | w
    · rw [w]; exact this
    · omega
end
