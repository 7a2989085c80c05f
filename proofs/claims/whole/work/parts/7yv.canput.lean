/-! test: whether a step may be there -/
def ndS (G : Gm) (st : St) (a b : Int) : Int := ft G (sEnt st a).1 + b
def okS (G : Gm) (ou : Int → Bool) (st : St) (t a b : Int) : Prop := (0 ≤ t ∧ t < nT G) ∧ ou t = false ∧ ((st.length = 0 ∧ sp G (ft G t) = 0 ∧ lb G (ft G t) = lb G 0) ∨ (st.length ≠ 0 ∧ (0 ≤ a ∧ a < (st.length : Int)) ∧ (0 ≤ b ∧ b < ft G ((sEnt st a).1 + 1) - ft G (sEnt st a).1) ∧ sPut st a b = -1 ∧ ((kd G (ndS G st a b) = 0 ∧ mk G (ndS G st a b) ≠ 1 ∧ sp G (ft G t) = 1 ∧ lb G (ft G t) = lb G (ndS G st a b)) ∨ (kd G (ndS G st a b) = 4 ∧ sp G (ft G t) = 0 ∧ lb G (ft G t) = lb G (ndS G st a b)))))
/-- the trees of the table are those told, and trees -/
def TrS (G : Gm) (ps st : St) : Prop := st.length ≤ ps.length ∧ ∀ j : Int, 0 ≤ j → j < (st.length : Int) → (sEnt st j).1 = (sEnt ps j).1 ∧ 0 ≤ (sEnt st j).1 ∧ (sEnt st j).1 < nT G
section
variable {h g : Hp} {P o8 n : Int} {G : Gm} {row : Int → Int} {ps st : St}
def CbE (h : Hp) (P : Int) (G : Gm) (o8 n : Int) (row : Int → Int) (ps st : St) : Prop := BX h P G o8 n row ∧ (h 10 1 = P ∧ h 10 2 = 72) ∧ TrX h ps ∧ XTab h 72 st ∧ TrS G ps st ∧ ps.length ≤ 40
theorem ndS_in (W : WF G) {t b : Int} (t0 : 0 ≤ t) (t1 : t < nT G) (b0 : 0 ≤ b) (b1 : b < ft G (t + 1) - ft G t) : 0 ≤ ft G t + b ∧ ft G t + b < nN G ∧ tr G (ft G t + b) = t ∧ b < 12 ∧ off G (ft G t + b) = b := by
  have r := root_in W t0 t1
  have f1 := ft_in W (t := t + 1) (by omega) (by omega)
  have sw := (wf_step W t0 t1).2
  have tt := wf_tru W (n := ft G t + b) t0 t1 (by omega) (by omega)
  refine ⟨by omega, by omega, tt, by omega, ?_⟩
  unfold off
  rw [tt]
  omega
theorem hasNode_ok (B : BX h P G o8 n row) {t b : Int} (t0 : 0 ≤ t) (t1 : t < nT G) : Gr_hasNode P t b h = some (if 0 ≤ b ∧ b < ft G (t + 1) - ft G t then 1 else 0) := by
  have kP := bx_kP B
  unfold Gr_hasNode Gr_hasNode_j25
  rw [if_pos kP, Gr_hasTree_ok B t, if_pos ⟨t0, t1⟩, ob_some, if_neg (by decide), Gr_sizeOf_ok B t0 t1, ob_some]
  by_cases h0 : b < 0
  · rw [if_pos h0, if_neg (by omega)]
  · rw [if_neg h0]
    by_cases h1 : ft G (t + 1) - ft G t ≤ b
    · rw [if_pos h1, if_neg (by omega)]
    · rw [if_neg h1, if_pos (by omega)]
theorem fits_ok (B : BX h P G o8 n row) (e1 : h 10 1 = P) {t node : Int} (t0 : 0 ≤ t) (t1 : t < nT G) (n0 : 0 ≤ node) (n1 : node < nN G) : ∃ v, SR_fits 10 t node h = some v ∧ ((v = 1 ∧ ((kd G node = 0 ∧ mk G node ≠ 1 ∧ sp G (ft G t) = 1 ∧ lb G (ft G t) = lb G node) ∨ (kd G node = 4 ∧ sp G (ft G t) = 0 ∧ lb G (ft G t) = lb G node))) ∨ (v = 0 ∧ ¬ ((kd G node = 0 ∧ mk G node ≠ 1 ∧ sp G (ft G t) = 1 ∧ lb G (ft G t) = lb G node) ∨ (kd G node = 4 ∧ sp G (ft G t) = 0 ∧ lb G (ft G t) = lb G node)))) := by
  have W := bx_W B
  have R := bx_R B
  have nt := wf_nt W
  have nn := wf_nn W
  have kP := bx_kP B
  obtain ⟨g0, g1, g2, g3, g4, g5, g6, g7, g8, g9, g10, g11, g12, g13⟩ := GrO_k R.1
  have rn := R.2.2.2.2.2.1 node n0 n1
  have e9 : h P 9 = P + 4 := R.2.1.2.2.2.1
  have e8 : h P 8 = P + 3 := R.2.1.2.2.1
  have e10 : h P 10 = P + 5 := R.2.1.2.2.2.2.1
  have e17 : h P 17 = P + 12 := R.2.1.2.2.2.2.2.2.2.2.2.2.2.1
  have e18 : h P 18 = P + 13 := R.2.1.2.2.2.2.2.2.2.2.2.2.2.2
  unfold SR_fits SR_fits_j56 SR_fits_j92
  rw [if_pos kK_10, e1, if_pos kP, e9, if_pos ⟨g4.1, n0, by rw [g4.2]; omega⟩, e8, if_pos ⟨g3.1, n0, by rw [g3.2]; omega⟩, rn.2.1, e10, if_pos (show kK (P + 5) = 21 ∧ (0 : Int) ≤ node ∧ node < kL (P + 5) from ⟨g5.1, n0, by rw [g5.2]; omega⟩), rn.2.2.2.1, rn.2.2.1, e18, e17]
  by_cases k0 : kd G node = 0
  · have ll := (wf_lb W n0 n1).1 (by omega)
    have bt := (R.2.2.2.2.2.2.1 (lb G node) ll.1 ll.2 t t0 (by omega)).2
    unfold bit at bt
    rw [if_pos k0, if_pos (show kK (P + 13) = 21 ∧ (0 : Int) ≤ lb G node ∧ lb G node < kL (P + 13) from ⟨g13.1, ll.1, by rw [g13.2]; exact ll.2⟩), bt]
    by_cases m1 : mk G node = 1
    · rw [if_pos m1]
      exact ⟨0, rfl, Or.inr ⟨rfl, by omega⟩⟩
    · rw [if_neg m1]
      by_cases hc : t < nT G ∧ sp G (ft G t) = 1 ∧ lb G (ft G t) = lb G node
      · rw [if_pos hc, if_pos rfl]
        exact ⟨1, rfl, Or.inl ⟨rfl, Or.inl ⟨k0, m1, hc.2⟩⟩⟩
      · rw [if_neg hc, if_neg (by decide)]
        refine ⟨0, rfl, Or.inr ⟨rfl, ?_⟩⟩
        rintro (z | z)
        · exact hc ⟨t1, z.2.2⟩
        · omega
  · rw [if_neg k0]
    by_cases k4 : kd G node = 4
    · have ll := (wf_lb W n0 n1).1 (by omega)
      have bt := (R.2.2.2.2.2.2.1 (lb G node) ll.1 ll.2 t t0 (by omega)).1
      unfold bit at bt
      rw [if_pos k4, if_pos (show kK (P + 12) = 21 ∧ (0 : Int) ≤ lb G node ∧ lb G node < kL (P + 12) from ⟨g12.1, ll.1, by rw [g12.2]; exact ll.2⟩), bt]
      by_cases hc : t < nT G ∧ sp G (ft G t) = 0 ∧ lb G (ft G t) = lb G node
      · rw [if_pos hc, if_pos rfl]
        exact ⟨1, rfl, Or.inl ⟨rfl, Or.inr ⟨k4, hc.2⟩⟩⟩
      · rw [if_neg hc, if_neg (by decide)]
        refine ⟨0, rfl, Or.inr ⟨rfl, ?_⟩⟩
        rintro (z | z)
        · omega
        · exact hc ⟨t1, z.2⟩
    · rw [if_neg k4]
      exact ⟨0, rfl, Or.inr ⟨rfl, by omega⟩⟩
theorem canBe_ok (C : CbE h P G o8 n row ps st) (hi : st.length < ps.length) (hv : 0 ≤ (sEnt ps st.length).2.1 ∧ 0 ≤ (sEnt ps st.length).2.2) : ∃ v, SR_canBeThere 10 st.length h = some v ∧ ((v = 1 ∧ okS G (ouB o8) st (sEnt ps st.length).1 (sEnt ps st.length).2.1 (sEnt ps st.length).2.2) ∨ (v = 0 ∧ ¬ okS G (ouB o8) st (sEnt ps st.length).1 (sEnt ps st.length).2.1 (sEnt ps st.length).2.2)) := by
  obtain ⟨B, ⟨e1, e2⟩, T, X, Ts, l40⟩ := C
  have W := bx_W B
  have R := bx_R B
  have S := bx_sx B
  have oo := bx_ob B
  have nt := wf_nt W
  have nn := wf_nn W
  have kP := bx_kP B
  obtain ⟨g0, g1, g2, g3, g4, g5, g6, g7, g8, g9, g10, g11, g12, g13⟩ := GrO_k R.1
  obtain ⟨k0, k1, k2, k3, k4, k5⟩ := WyO_k (w := 72) (Or.inr rfl)
  have s5 : h 10 5 = 13 := sx_at S (by decide)
  have s6 : h 10 6 = 14 := sx_at S (by decide)
  have s7 : h 10 7 = 15 := sx_at S (by decide)
  have i0 : (0 : Int) ≤ (st.length : Int) := by omega
  have i1 : (st.length : Int) < (ps.length : Int) := by omega
  have tt := T.2 (st.length : Int) i0 i1
  generalize hx : sEnt ps (st.length : Int) = x at tt hv
  obtain ⟨t, a, b⟩ := x
  simp only at tt hv
  have y13 : kK 13 = 21 ∧ (0 : Int) ≤ (st.length : Int) ∧ (st.length : Int) < kL 13 := ⟨by decide, i0, by rw [kL_13]; omega⟩
  have y14 : kK 14 = 21 ∧ (0 : Int) ≤ (st.length : Int) ∧ (st.length : Int) < kL 14 := ⟨by decide, i0, by rw [kL_14]; omega⟩
  have y15 : kK 15 = 21 ∧ (0 : Int) ≤ (st.length : Int) ∧ (st.length : Int) < kL 15 := ⟨by decide, i0, by rw [kL_15]; omega⟩
  have e6 : h P 6 = P + 1 := R.2.1.1
  have e8 : h 72 8 = 72 + 5 := sx_at S (by decide)
  show ∃ v, SR_canBeThere 10 st.length h = some v ∧ ((v = 1 ∧ okS G (ouB o8) st t a b) ∨ (v = 0 ∧ ¬ okS G (ouB o8) st t a b))
  unfold SR_canBeThere
  rw [if_pos kK_10, s5, if_pos y13, e1, if_pos kP, tt.1, Gr_hasTree_ok B t, oo.1, s6, if_pos y14, tt.2.1, s7, if_pos y15, tt.2.2, e6, e2, e8, ob_some]
  by_cases ht : 0 ≤ t ∧ t < nT G
  · rw [if_pos ht, if_neg (by decide)]
    have ob' := ouB_bit oo.2.1 oo.2.2 ht.1 (show t < 8 by omega)
    unfold bit at ob'
    rw [ob']
    cases hu : ouB o8 t
    · rw [if_neg Bool.false_ne_true, if_neg (by decide)]
      by_cases hz : (st.length : Int) = 0
      · have hz' : st.length = 0 := by omega
        obtain ⟨hs0, l0, l1⟩ := hostsAtStart_ok R W (show nT G ≠ 0 by omega)
        have bt := (R.2.2.2.2.2.2.1 (lb G 0) l0 l1 t ht.1 (by omega)).1
        unfold bit at bt
        rw [if_pos hz, hs0, ob_some, bt]
        by_cases hc : t < nT G ∧ sp G (ft G t) = 0 ∧ lb G (ft G t) = lb G 0
        · rw [if_pos hc, if_pos rfl]
          exact ⟨1, rfl, Or.inl ⟨rfl, ht, hu, Or.inl ⟨hz', hc.2⟩⟩⟩
        · rw [if_neg hc, if_neg (by decide)]
          refine ⟨0, rfl, Or.inr ⟨rfl, ?_⟩⟩
          rintro ⟨-, -, z | z⟩
          · exact hc ⟨ht.2, z.2⟩
          · exact z.1 hz'
      · have hz' : ¬ st.length = 0 := by omega
        rw [if_neg hz]
        by_cases ha : (st.length : Int) ≤ a
        · rw [if_pos ha]
          refine ⟨0, rfl, Or.inr ⟨rfl, ?_⟩⟩
          rintro ⟨-, -, z | z⟩
          · exact hz' z.1
          · have := z.2.1.2; omega
        · rw [if_neg ha]
          have ta := Ts.2 a hv.1 (by omega)
          have h13 : h 13 a = (sEnt st a).1 := by rw [(T.2 a hv.1 (by omega)).1, ta.1]
          rw [if_pos (show kK 13 = 21 ∧ (0 : Int) ≤ a ∧ a < kL 13 from ⟨by decide, hv.1, by rw [kL_13]; omega⟩), h13, hasNode_ok B ta.2.1 ta.2.2, ob_some]
          by_cases hb : 0 ≤ b ∧ b < ft G ((sEnt st a).1 + 1) - ft G (sEnt st a).1
          · obtain ⟨m0, m1, m2, m3, m4⟩ := ndS_in W ta.2.1 ta.2.2 hb.1 hb.2
            have ew : w32 (w32 (a * 12) + b) = 12 * a + b := by
              have : w32 (a * 12) = 12 * a := by unfold w32; omega
              rw [this]; unfold w32; omega
            have eft : h (P + 1) (sEnt st a).1 = ft G (sEnt st a).1 := R.2.2.2.2.1 _ ta.2.1 (by omega)
            have ewn : w32 (ft G (sEnt st a).1 + b) = ndS G st a b := by unfold ndS w32; omega
            obtain ⟨v, xv, pv⟩ := fits_ok (node := ndS G st a b) B e1 ht.1 ht.2 m0 m1
            rw [if_pos hb, if_neg (by decide), if_pos ⟨g1.1, ta.2.1, by rw [g1.2]; omega⟩, if_pos kK_72, ew, if_pos ⟨k5.1, by omega, by rw [k5.2]; omega⟩, X.2.2 a b hv.1 (by omega) hb.1 (by omega), eft, ewn, xv, ob_some]
            by_cases hp : sPut st a b = -1
            · rw [if_pos hp]
              rcases pv with ⟨z1, z2⟩ | ⟨z1, z2⟩
              · subst z1
                rw [if_pos (Or.inr rfl)]
                exact ⟨1, rfl, Or.inl ⟨rfl, ht, hu, Or.inr ⟨hz', ⟨hv.1, by omega⟩, hb, hp, z2⟩⟩⟩
              · subst z1
                rw [if_pos (Or.inl rfl)]
                refine ⟨0, rfl, Or.inr ⟨rfl, ?_⟩⟩
                rintro ⟨-, -, z | z⟩
                · exact hz' z.1
                · exact z2 z.2.2.2.2
            · rw [if_neg hp]
              refine ⟨0, rfl, Or.inr ⟨rfl, ?_⟩⟩
              rintro ⟨-, -, z | z⟩
              · exact hz' z.1
              · exact hp z.2.2.2.1
          · rw [if_neg hb, if_pos rfl]
            refine ⟨0, rfl, Or.inr ⟨rfl, ?_⟩⟩
            rintro ⟨-, -, z | z⟩
            · exact hz' z.1
            · exact hb z.2.2.1
    · rw [if_pos rfl, if_pos rfl]
      refine ⟨0, rfl, Or.inr ⟨rfl, ?_⟩⟩
      rintro ⟨-, z, -⟩
      rw [hu] at z
      exact absurd z (by decide)
  · rw [if_neg ht, if_pos rfl]
    exact ⟨0, rfl, Or.inr ⟨rfl, fun z => ht z.1⟩⟩
end
