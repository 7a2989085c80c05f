/-! test: the steps told are put together -/
def en0 (ps : St) (i : Nat) : Int × Int × Int := if i = 0 then ((sEnt ps 0).1, -1, -1) else sEnt ps i
def okN (G : Gm) (ou : Int → Bool) (ps st : St) : Prop := okS G ou st (sEnt ps st.length).1 (sEnt ps st.length).2.1 (sEnt ps st.length).2.2
def Bld (G : Gm) (ou : Int → Bool) (ps : St) : St → Prop
  | [] => True
  | x :: r => x = en0 ps r.length ∧ r.length < ps.length ∧ okN G ou ps r ∧ Bld G ou ps r
def Bnd (G : Gm) (ou : Int → Bool) (ps st : St) : Prop := Bld G ou ps st ∧ (st.length < ps.length → ¬ okN G ou ps st)
section
variable {h g : Hp} {P o8 n : Int} {G : Gm} {row : Int → Int} {ps st : St} {ou : Int → Bool}
theorem Bld_le : ∀ {st : St}, Bld G ou ps st → st.length ≤ ps.length
  | [], _ => Nat.zero_le _
  | _ :: _, B => B.2.1
theorem Bld_uniq : ∀ {st st' : St}, Bld G ou ps st → Bld G ou ps st' → st.length = st'.length → st = st'
  | [], [], _, _, _ => rfl
  | [], _ :: _, _, _, e => absurd e (by simp)
  | _ :: _, [], _, _, e => absurd e (by simp)
  | x :: r, y :: r', B, B', e => by
    have er : r.length = r'.length := by simpa using e
    have := Bld_uniq B.2.2.2 B'.2.2.2 er
    subst this
    rw [B.1, B'.1]
theorem Bld_suf : ∀ {st : St}, Bld G ou ps st → ∀ k, k < st.length → ∃ r, Bld G ou ps r ∧ r.length = k ∧ okN G ou ps r
  | [], _, k, hk => absurd hk (Nat.not_lt_zero k)
  | x :: r, B, k, hk => by
    by_cases e : k = r.length
    · exact ⟨r, B.2.2.2, e.symm, B.2.2.1⟩
    · exact Bld_suf B.2.2.2 k (by have : (x :: r).length = r.length + 1 := rfl; omega)
theorem Bnd_uniq {st' : St} (B : Bnd G ou ps st) (B' : Bnd G ou ps st') : st = st' := by
  refine Bld_uniq B.1 B'.1 ?_
  have l := Bld_le B.1
  have l' := Bld_le B'.1
  rcases Nat.lt_trichotomy st.length st'.length with z | z | z
  · obtain ⟨r, br, er, ok⟩ := Bld_suf B'.1 _ z
    have := Bld_uniq br B.1 er
    subst this
    exact absurd ok (B.2 (by omega))
  · exact z
  · obtain ⟨r, br, er, ok⟩ := Bld_suf B.1 _ z
    have := Bld_uniq br B'.1 er
    subst this
    exact absurd ok (B'.2 (by omega))
theorem en0_tree (i : Nat) : (en0 ps i).1 = (sEnt ps i).1 := by
  unfold en0
  by_cases z : i = 0
  · rw [if_pos z, z]; rfl
  · rw [if_neg z]
theorem okS_into (W : WF G) (TS : TrS G ps st) (ok : okN G ou ps st) : (en0 ps st.length).2.1 = -1 ∨ (0 ≤ (en0 ps st.length).2.1 ∧ (en0 ps st.length).2.1 < (st.length : Int) ∧ 0 ≤ (en0 ps st.length).2.2 ∧ (en0 ps st.length).2.2 < 12) := by
  unfold en0
  rcases ok.2.2 with z | z
  · rw [if_pos z.1]; exact Or.inl rfl
  · rw [if_neg z.1]
    right
    have tt := TS.2 _ z.2.1.1 z.2.1.2
    have sw := (wf_step W tt.2.1 tt.2.2).2
    have zb := z.2.2.1
    exact ⟨z.2.1.1, z.2.1.2, zb.1, by omega⟩
theorem Bld_facts (W : WF G) : ∀ {st : St}, Bld G ou ps st → Fresh st ∧ TrS G ps st
  | [], _ => ⟨fun _ _ _ => rfl, Nat.zero_le _, fun j j0 j1 => by have : (([] : St).length : Int) = 0 := rfl; omega⟩
  | x :: r, B => by
    obtain ⟨F, T⟩ := Bld_facts W B.2.2.2
    have io := okS_into W T B.2.2.1
    have hl : (((x :: r).length : Nat) : Int) = (r.length : Int) + 1 := by show ((r.length + 1 : Nat) : Int) = _; omega
    refine ⟨fun s' n' hs => ?_, B.2.1, fun j j0 j1 => ?_⟩
    · show (if x.2.1 = s' ∧ x.2.2 = n' then (r.length : Int) else sPut r s' n') = -1
      have ex := B.1
      rw [← ex] at io
      rw [if_neg (fun z => by have := z.1; omega)]
      exact F s' n' (by omega)
    · have ej : sEnt (x :: r) j = if j = r.length then x else sEnt r j := rfl
      rw [ej]
      by_cases hj : j = (r.length : Int)
      · rw [if_pos hj, B.1, en0_tree, hj]
        exact ⟨rfl, B.2.2.1.1⟩
      · rw [if_neg hj]
        exact T.2 j j0 (by omega)
theorem vol_72 {h' : Hp} (F : FW 72 h h') : Vol h h' := fun c s hv => F c s (by
    refine Classical.byContradiction (fun z => ?_)
    have zc : c = 72 ∧ s = 1 := by omega
    rw [zc.1, zc.2] at hv
    exact absurd hv (by decide)) (fun z => by rw [z] at hv; simp [volB] at hv) (fun z => by rw [z] at hv; simp [volB] at hv) (fun z => by rw [z] at hv; simp [volB] at hv) (fun z => by rw [z] at hv; simp [volB] at hv) (fun z => by rw [z] at hv; simp [volB] at hv)
theorem FW.lo {h' : Hp} (F : FW 72 h h') {c : Int} (hc : c < 72) (s : Int) : h' c s = h c s := F c s (Or.inl (by omega)) (by omega) (by omega) (by omega) (by omega) (by omega)
theorem FW.tr72 {h' h'' : Hp} (a : FW 72 h h') (b : FW 72 h' h'') : FW 72 h h'' := fun c s h1 h2 h3 h4 h5 h6 => by rw [b c s h1 h2 h3 h4 h5 h6, a c s h1 h2 h3 h4 h5 h6]
theorem build_cl (B : BX h P G o8 n row) (e1 : h 10 1 = P) (e2 : h 10 2 = 72) (T : TrX h ps) (l40 : ps.length ≤ 40) (hv : ∀ i : Int, 0 ≤ i → i < (ps.length : Int) → 0 ≤ (sEnt ps i).2.1 ∧ 0 ≤ (sEnt ps i).2.2) (X : XTab h 72 []) :
    ∃ r st h', loopN (fun q => SR_putTogether_L19 10 q.1 q.2) LN (0, h) = some r ∧ FW 72 h h' ∧ XTab h' 72 st ∧ Bnd G (ouB o8) ps st ∧ ((r = .inl ((st.length : Int), h') ∧ st.length < ps.length) ∨ (r = .inr h' ∧ st.length = ps.length)) := by
  have W := bx_W B
  obtain ⟨r, e, st, h', q⟩ := loop_ok (body := fun q => SR_putTogether_L19 10 q.1 q.2) (fun q => ∃ st, q.1 = (st.length : Int) ∧ FW 72 h q.2 ∧ XTab q.2 72 st ∧ Bld G (ouB o8) ps st) (fun q => (40 - q.1).toNat) (fun r => ∃ st h', FW 72 h h' ∧ XTab h' 72 st ∧ Bnd G (ouB o8) ps st ∧ ((r = .inl ((st.length : Int), h') ∧ st.length < ps.length) ∨ (r = .inr h' ∧ st.length = ps.length))) (by
    rintro ⟨x, f⟩ ⟨st, ex, F, XT, BL⟩
    simp only at ex F XT
    simp only
    subst ex
    have le := Bld_le BL
    have fa := Bld_facts W BL
    have Bf := BX_vol (vol_72 F) B
    have S := bx_sx Bf
    have f4 : f 10 4 = (ps.length : Int) := by rw [F.lo (by decide)]; exact T.1
    have f2 : f 10 2 = 72 := by rw [F.lo (by decide)]; exact e2
    have f5 : f 10 5 = 13 := sx_at S (by decide)
    have f6 : f 10 6 = 14 := sx_at S (by decide)
    have f7 : f 10 7 = 15 := sx_at S (by decide)
    have Tf : TrX f ps := ⟨f4, fun i i0 i1 => by
      rw [F.lo (by decide), F.lo (by decide), F.lo (by decide)]
      exact T.2 i i0 i1⟩
    unfold SR_putTogether_L19
    rw [if_pos kK_10, f4]
    by_cases hd : (ps.length : Int) ≤ (st.length : Int)
    · right
      rw [if_pos hd]
      exact ⟨_, rfl, st, f, F, XT, ⟨BL, fun z => absurd z (by omega)⟩, Or.inr ⟨rfl, by omega⟩⟩
    · rw [if_neg hd]
      have i0 : (0 : Int) ≤ (st.length : Int) := by omega
      have i1 : (st.length : Int) < (ps.length : Int) := by omega
      obtain ⟨v, cv, p⟩ := canBe_ok (st := st) (ps := ps) ⟨Bf, ⟨by rw [F.lo (by decide)]; exact e1, f2⟩, Tf, XT, fa.2, l40⟩ (by omega) (hv _ i0 i1)
      rw [cv, ob_some]
      rcases p with ⟨rfl, ok⟩ | ⟨rfl, ok⟩
      · left
        have io := okS_into W fa.2 ok
        have tt := Tf.2 (st.length : Int) i0 i1
        have y13 : kK 13 = 21 ∧ (0 : Int) ≤ (st.length : Int) ∧ (st.length : Int) < kL 13 := ⟨by decide, i0, by rw [kL_13]; omega⟩
        have y14 : kK 14 = 21 ∧ (0 : Int) ≤ (st.length : Int) ∧ (st.length : Int) < kL 14 := ⟨by decide, i0, by rw [kL_14]; omega⟩
        have y15 : kK 15 = 21 ∧ (0 : Int) ≤ (st.length : Int) ∧ (st.length : Int) < kL 15 := ⟨by decide, i0, by rw [kL_15]; omega⟩
        have WS : WyS f 72 := ⟨sx_at S (by decide), sx_at S (by decide), sx_at S (by decide), sx_at S (by decide), sx_at S (by decide)⟩
        obtain ⟨f', af, F', X'⟩ := Wy_addStep_ok (w := 72) (Or.inr rfl) WS XT fa.1 (show st.length < 48 by omega) (t := (en0 ps st.length).1) io
        rw [if_neg (by decide), f5, if_pos y13, tt.1]
        have fin : SR_putTogether_j78 10 (st.length : Int) (en0 ps st.length).2.2 (en0 ps st.length).2.1 (en0 ps st.length).1 72 f = some (.inl ((st.length : Int) + 1, f')) := by
          unfold SR_putTogether_j78
          rw [if_pos (by decide), af, ob_some]
          show some (Sum.inl (w32 ((st.length : Int) + 1), f')) = _
          rw [show w32 ((st.length : Int) + 1) = (st.length : Int) + 1 by unfold w32; omega]
        refine ⟨((st.length : Int) + 1, f'), ?_, ⟨en0 ps st.length :: st, by show (st.length : Int) + 1 = ((st.length + 1 : Nat) : Int); omega, F.tr72 F', X', rfl, by omega, ok, BL⟩, by simp only; omega⟩
        rw [← fin]
        by_cases hz : (st.length : Int) = 0
        · have hz' : st.length = 0 := by omega
          have e0 : en0 ps st.length = ((sEnt ps (st.length : Int)).1, -1, -1) := by
            unfold en0
            rw [if_pos hz', hz]
          rw [if_pos hz, f2, e0]
          unfold SR_putTogether_j64
          rw [if_pos hz]
        · have hz' : ¬ st.length = 0 := by omega
          have e0 : en0 ps st.length = sEnt ps (st.length : Int) := by
            unfold en0
            rw [if_neg hz']
          rw [if_neg hz, f6, if_pos y14, tt.2.1, f2, e0]
          unfold SR_putTogether_j64
          rw [if_neg hz, if_pos kK_10, f7, if_pos y15, tt.2.2]
      · right
        rw [if_pos rfl]
        exact ⟨_, rfl, st, f, F, XT, ⟨BL, fun _ => ok⟩, Or.inl ⟨rfl, by omega⟩⟩) LN (0, h) ⟨[], rfl, fun _ _ _ _ _ _ _ _ => rfl, X, trivial⟩ (by unfold LN; simp only; omega)
  exact ⟨r, st, h', e, q⟩
theorem build_rf (B : BM g G o8 n row) (S : SShp g) (e59 : g 121 59 = 156) (Tr : TrM g ps) (l40 : ps.length ≤ 40) (hv : ∀ i : Int, 0 ≤ i → i < (ps.length : Int) → 0 ≤ (sEnt ps i).2.1 ∧ 0 ≤ (sEnt ps i).2.2) (T : RTab g []) {d : Nat} :
    ∃ r st g', loopN (fun q => M_test_L34 d 121 q.1 q.2) LN (0, g) = some r ∧ F5 g g' ∧ RTab g' st ∧ Bnd G (ouB o8) ps st ∧ ((r = .inl ((st.length : Int), g') ∧ st.length < ps.length) ∨ (r = .inr g' ∧ st.length = ps.length)) := by
  have W := bm_W B
  obtain ⟨r, e, st, h', q⟩ := loop_ok (body := fun q => M_test_L34 d 121 q.1 q.2) (fun q => ∃ st, q.1 = (st.length : Int) ∧ F5 g q.2 ∧ RTab q.2 st ∧ Bld G (ouB o8) ps st) (fun q => (40 - q.1).toNat) (fun r => ∃ st g', F5 g g' ∧ RTab g' st ∧ Bnd G (ouB o8) ps st ∧ ((r = .inl ((st.length : Int), g') ∧ st.length < ps.length) ∨ (r = .inr g' ∧ st.length = ps.length))) (by
    rintro ⟨x, f⟩ ⟨st, ex, F, RT, BL⟩
    simp only at ex F RT
    simp only
    subst ex
    have le := Bld_le BL
    have fa := Bld_facts W BL
    have Bf : BM f G o8 n row := BM_ly B F.ly
    have Sf := SShp_5 F S
    have f60 : f 121 60 = (ps.length : Int) := by rw [F.c121 (by decide)]; exact Tr.1
    have f59 : f 121 59 = 156 := by rw [F.c121 (by decide)]; exact e59
    have c156 : ∀ s, f 156 s = g 156 s := fun s => F 156 s (Or.inl (by decide)) (by decide) (by decide) (by decide) (by decide) (by decide) (by decide) (by decide) (by decide)
    have Tf : TrM f ps := ⟨f60, fun i i0 i1 => by
      rw [c156, c156, c156]
      exact Tr.2 i i0 i1⟩
    unfold M_test_L34
    rw [if_pos kK_121, f60]
    by_cases hd : (ps.length : Int) ≤ (st.length : Int)
    · right
      rw [if_pos hd]
      exact ⟨_, rfl, st, f, F, RT, ⟨BL, fun z => absurd z (by omega)⟩, Or.inr ⟨rfl, by omega⟩⟩
    · rw [if_neg hd]
      have i0 : (0 : Int) ≤ (st.length : Int) := by omega
      have i1 : (st.length : Int) < (ps.length : Int) := by omega
      obtain ⟨v, cv, p, pv⟩ := canPut_ok (st := st) (ps := ps) ⟨Bf, Sf, RT, f59, Tf, fa.2, l40⟩ (by omega) (hv _ i0 i1)
      rw [cv, ob_some]
      rcases p with ⟨rfl, ok⟩ | ⟨rfl, ok⟩
      · left
        have io := okS_into W fa.2 ok
        have pp := pv rfl
        have kl : kL 156 = 120 := kL_156
        have w0 : w32 (3 * (st.length : Int)) = 3 * (st.length : Int) := by unfold w32; omega
        have w1 : w32 (3 * (st.length : Int) + 1) = 3 * (st.length : Int) + 1 := by unfold w32; omega
        have w2 : w32 (3 * (st.length : Int) + 2) = 3 * (st.length : Int) + 2 := by unfold w32; omega
        have y0 : kK 156 = 21 ∧ (0 : Int) ≤ 3 * (st.length : Int) ∧ 3 * (st.length : Int) < kL 156 := ⟨kK_156, by omega, by rw [kl]; omega⟩
        have y1 : kK 156 = 21 ∧ (0 : Int) ≤ 3 * (st.length : Int) + 1 ∧ 3 * (st.length : Int) + 1 < kL 156 := ⟨kK_156, by omega, by rw [kl]; omega⟩
        have y2 : kK 156 = 21 ∧ (0 : Int) ≤ 3 * (st.length : Int) + 2 ∧ 3 * (st.length : Int) + 2 < kL 156 := ⟨kK_156, by omega, by rw [kl]; omega⟩
        obtain ⟨f', af, F', X', -⟩ := M_newStep_ok Sf RT fa.1 (show st.length < 128 by omega) (t := (en0 ps st.length).1) io
        have ee : f 156 (3 * (st.length : Int)) = (en0 ps st.length).1 ∧ f 156 (3 * (st.length : Int) + 1) = (en0 ps st.length).2.1 ∧ f 156 (3 * (st.length : Int) + 2) = (en0 ps st.length).2.2 := by
          refine ⟨by rw [en0_tree]; exact pp.1, ?_⟩
          unfold en0
          by_cases hz : st.length = 0
          · rw [if_pos hz]
            exact (Tf.2 (st.length : Int) i0 i1).2.1 (by omega)
          · rw [if_neg hz]
            exact pp.2 hz
        rw [if_neg (by decide), f59, w0, w1, w2, if_pos y0, if_pos y1, if_pos y2, ee.1, ee.2.1, ee.2.2, af, ob_some]
        refine ⟨((st.length : Int) + 1, f'), ?_, ⟨en0 ps st.length :: st, by show (st.length : Int) + 1 = ((st.length + 1 : Nat) : Int); omega, F.tr F', X', rfl, by omega, ok, BL⟩, by simp only; omega⟩
        show some (Sum.inl (w32 ((st.length : Int) + 1), f')) = _
        rw [show w32 ((st.length : Int) + 1) = (st.length : Int) + 1 by unfold w32; omega]
      · right
        rw [if_pos rfl]
        exact ⟨_, rfl, st, f, F, RT, ⟨BL, fun _ => ok⟩, Or.inl ⟨rfl, by omega⟩⟩) LN (0, g) ⟨[], rfl, F5.rf, T, trivial⟩ (by unfold LN; simp only; omega)
  exact ⟨r, st, h', e, q⟩
end
