/-! test: what lacks -/
def lkB (G : Gm) (st : St) (k m s b : Int) : Prop := kd G (ndS G st s b) = k ∧ mk G (ndS G st s b) = m ∧ sPut st s b = -1
def lkQ (G : Gm) (st : St) (k m s : Int) : Prop := ∃ b, (0 ≤ b ∧ b < ft G ((sEnt st s).1 + 1) - ft G (sEnt st s).1) ∧ lkB G st k m s b
def lkF (G : Gm) (st : St) (k m r : Int) : Prop := (r = -1 ∧ ∀ s, 0 ≤ s → s < (st.length : Int) → ¬ lkQ G st k m s) ∨ ((0 ≤ r ∧ r < (st.length : Int)) ∧ lkQ G st k m r ∧ ∀ s, 0 ≤ s → s < r → ¬ lkQ G st k m s)
section
variable {h g : Hp} {P o8 n : Int} {G : Gm} {row : Int → Int} {ps st : St} {k m : Int}
theorem lkF_uniq {r r' : Int} (a : lkF G st k m r) (b : lkF G st k m r') : r = r' := by
  rcases a with ⟨a1, a2⟩ | ⟨a1, a2, a3⟩
  · rcases b with ⟨b1, b2⟩ | ⟨b1, b2, b3⟩
    · omega
    · exact absurd b2 (a2 _ b1.1 b1.2)
  · rcases b with ⟨b1, b2⟩ | ⟨b1, b2, b3⟩
    · exact absurd a2 (b2 _ a1.1 a1.2)
    · rcases Int.lt_trichotomy r r' with z | z | z
      · exact absurd a2 (b3 _ a1.1 z)
      · exact z
      · exact absurd b2 (a3 _ b1.1 z)
theorem lack1_cl (C : CbE h P G o8 n row ps st) {s : Int} (s0 : 0 ≤ s) (s1 : s < (st.length : Int)) : ∃ r, loopN (fun q => SR_firstLacking_L29 10 k m s (ft G (sEnt st s).1) h q) LN 0 = some r ∧ ((r = .inl () ∧ lkQ G st k m s) ∨ (r = .inr () ∧ ¬ lkQ G st k m s)) := by
  obtain ⟨B, ⟨e1, e2⟩, T, X, Ts, l40⟩ := C
  have W := bx_W B
  have R := bx_R B
  have S := bx_sx B
  have nn := wf_nn W
  have kP := bx_kP B
  obtain ⟨g0, g1, g2, g3, g4, g5, g6, g7, g8, g9, g10, g11, g12, g13⟩ := GrO_k R.1
  have s5 : h 10 5 = 13 := sx_at S (by decide)
  have e8 : h P 8 = P + 3 := R.2.1.2.2.1
  have e10 : h P 10 = P + 5 := R.2.1.2.2.2.2.1
  have w8 : h 72 8 = 77 := sx_at S (by decide)
  have sl := Ts.1
  have ts := Ts.2 s s0 s1
  have tt := (T.2 s s0 (by omega)).1
  have sw := (wf_step W ts.2.1 ts.2.2).2
  have y13 : kK 13 = 21 ∧ (0 : Int) ≤ s ∧ s < kL 13 := ⟨by decide, s0, by rw [kL_13]; omega⟩
  obtain ⟨r, e, q⟩ := loop_ok (body := fun q => SR_firstLacking_L29 10 k m s (ft G (sEnt st s).1) h q) (fun q => 0 ≤ q ∧ q ≤ 12 ∧ ∀ b, 0 ≤ b → b < q → ¬ lkB G st k m s b) (fun q => (13 - q).toNat) (fun r => (r = .inl () ∧ lkQ G st k m s) ∨ (r = .inr () ∧ ¬ lkQ G st k m s)) (by
    rintro x ⟨x0, x1, hx⟩
    unfold SR_firstLacking_L29 SR_firstLacking_j85
    rw [if_pos kK_10, s5, if_pos y13, e1, if_pos kP, tt, ← ts.1, Gr_sizeOf_ok B ts.2.1 ts.2.2, ob_some]
    by_cases hd : ft G ((sEnt st s).1 + 1) - ft G (sEnt st s).1 ≤ x
    · right
      rw [if_pos hd]
      exact ⟨_, rfl, Or.inr ⟨rfl, fun ⟨b, hb, z⟩ => hx b hb.1 (by omega) z⟩⟩
    · rw [if_neg hd]
      have nI := ndS_in W ts.2.1 ts.2.2 x0 (show x < ft G ((sEnt st s).1 + 1) - ft G (sEnt st s).1 by omega)
      have n0 : 0 ≤ ndS G st s x := nI.1
      have n1 : ndS G st s x < nN G := nI.2.1
      have x12 : x < 12 := nI.2.2.2.1
      have ew : w32 (ft G (sEnt st s).1 + x) = ndS G st s x := by
        have ed : ndS G st s x = ft G (sEnt st s).1 + x := rfl
        rw [← ed]
        unfold w32
        omega
      have rn := R.2.2.2.2.2.1 (ndS G st s x) n0 n1
      have y3 : kK (P + 3) = 21 ∧ (0 : Int) ≤ ndS G st s x ∧ ndS G st s x < kL (P + 3) := ⟨g3.1, n0, by rw [g3.2]; omega⟩
      have y5 : kK (P + 5) = 21 ∧ (0 : Int) ≤ ndS G st s x ∧ ndS G st s x < kL (P + 5) := ⟨g5.1, n0, by rw [g5.2]; omega⟩
      have go : ¬ lkB G st k m s x → SR_firstLacking_j114 10 k m s (ft G (sEnt st s).1) x h = some (.inl (x + 1)) ∧ (0 ≤ x + 1 ∧ x + 1 ≤ 12 ∧ ∀ b, 0 ≤ b → b < x + 1 → ¬ lkB G st k m s b) ∧ (13 - (x + 1)).toNat < (13 - x).toNat := by
        intro nb
        refine ⟨?_, ⟨by omega, by omega, fun b b0 b1 => ?_⟩, by omega⟩
        · unfold SR_firstLacking_j114
          rw [show w32 (x + 1) = x + 1 by unfold w32; omega]
        · by_cases hb : b = x
          · rw [hb]; exact nb
          · exact hx b b0 (by omega)
      have j0 : SR_firstLacking_j86 10 k m s (ft G (sEnt st s).1) x 0 h = SR_firstLacking_j114 10 k m s (ft G (sEnt st s).1) x h := by
        unfold SR_firstLacking_j86
        rw [if_pos rfl]
      rw [e8, ew, if_pos y3, rn.2.1, j0]
      by_cases hk : kd G (ndS G st s x) = k
      · rw [if_pos hk, e10, if_pos y5, rn.2.2.2.1]
        by_cases hm : mk G (ndS G st s x) = m
        · have ew2 : w32 (w32 (s * 12) + x) = 12 * s + x := by
            have : w32 (s * 12) = 12 * s := by unfold w32; omega
            rw [this]; unfold w32; omega
          have xp : h 77 (12 * s + x) = sPut st s x := X.2.2 s x s0 (by omega) x0 x12
          rw [if_pos hm]
          unfold SR_firstLacking_j86
          rw [if_neg (by decide), if_pos kK_10, e2, if_pos (show kK 72 = 8 by decide), w8, ew2, if_pos (show kK 77 = 21 ∧ (0 : Int) ≤ 12 * s + x ∧ 12 * s + x < kL 77 from ⟨by decide, by omega, by rw [show kL 77 = 576 by decide]; omega⟩), xp]
          by_cases hp : sPut st s x = -1
          · right
            rw [if_pos hp]
            exact ⟨_, rfl, Or.inl ⟨rfl, x, ⟨x0, by omega⟩, hk, hm, hp⟩⟩
          · left
            rw [if_neg hp]
            exact ⟨_, go (fun z => hp z.2.2)⟩
        · left
          rw [if_neg hm]
          exact ⟨_, go (fun z => hm z.2.1)⟩
      · left
        rw [if_neg hk]
        exact ⟨_, go (fun z => hk z.1)⟩) LN 0 ⟨Int.le_refl 0, by decide, fun b b0 b1 => by omega⟩ (by unfold LN; omega)
  exact ⟨r, e, q⟩
theorem lack_cl (C : CbE h P G o8 n row ps st) (full : st.length = ps.length) : ∃ r, SR_firstLacking 10 k m h = some r ∧ lkF G st k m r := by
  have C' := C
  obtain ⟨B, ⟨e1, e2⟩, T, X, Ts, l40⟩ := C
  have W := bx_W B
  have R := bx_R B
  have S := bx_sx B
  have nt := wf_nt W
  have kP := bx_kP B
  obtain ⟨g0, g1, g2, g3, g4, g5, g6, g7, g8, g9, g10, g11, g12, g13⟩ := GrO_k R.1
  have s5 : h 10 5 = 13 := sx_at S (by decide)
  have e6 : h P 6 = P + 1 := R.2.1.1
  have e4 : h 10 4 = (ps.length : Int) := T.1
  obtain ⟨r, e, q⟩ := loop_ok (body := fun q => SR_firstLacking_L2 10 k m h q) (fun q => 0 ≤ q ∧ q ≤ (st.length : Int) ∧ ∀ s, 0 ≤ s → s < q → ¬ lkQ G st k m s) (fun q => (41 - q).toNat) (fun r => (r = .inr () ∧ lkF G st k m (-1)) ∨ ∃ s, r = .inl s ∧ lkF G st k m s) (by
    rintro x ⟨x0, x1, hx⟩
    unfold SR_firstLacking_L2
    rw [if_pos kK_10, e4]
    by_cases hd : (ps.length : Int) ≤ x
    · right
      rw [if_pos hd]
      exact ⟨_, rfl, Or.inl ⟨rfl, Or.inl ⟨rfl, fun s s0 s1 => hx s s0 (by omega)⟩⟩⟩
    · have s1 : x < (st.length : Int) := by omega
      have ts := Ts.2 x x0 s1
      have tt := (T.2 x x0 (by omega)).1
      have y13 : kK 13 = 21 ∧ (0 : Int) ≤ x ∧ x < kL 13 := ⟨by decide, x0, by rw [kL_13]; omega⟩
      have ef := R.2.2.2.2.1 (sEnt st x).1 ts.2.1 (by omega)
      obtain ⟨r, er, q⟩ := lack1_cl (k := k) (m := m) C' x0 s1
      rw [if_neg hd, e1, if_pos kP, s5, if_pos y13, e6, tt, ← ts.1, if_pos (show kK (P + 1) = 21 ∧ (0 : Int) ≤ (sEnt st x).1 ∧ (sEnt st x).1 < kL (P + 1) from ⟨g1.1, ts.2.1, by rw [g1.2]; omega⟩), ef, er, ob_some]
      rcases q with ⟨rfl, hq⟩ | ⟨rfl, hq⟩
      · right
        exact ⟨_, rfl, Or.inr ⟨x, rfl, Or.inr ⟨⟨x0, s1⟩, hq, hx⟩⟩⟩
      · left
        refine ⟨x + 1, ?_, ⟨by omega, by omega, fun s a b => ?_⟩, by omega⟩
        · show some (Sum.inl (w32 (x + 1))) = _
          rw [show w32 (x + 1) = x + 1 by unfold w32; omega]
        · by_cases hs : s = x
          · rw [hs]; exact hq
          · exact hx s a (by omega)) LN 0 ⟨Int.le_refl 0, by omega, fun b b0 b1 => by omega⟩ (by unfold LN; omega)
  unfold SR_firstLacking
  rw [e, ob_some]
  rcases q with ⟨rfl, z⟩ | ⟨s, rfl, z⟩
  · exact ⟨_, rfl, z⟩
  · exact ⟨_, rfl, z⟩
theorem lack1_rf (C : CpE g G o8 n row ps st) (hkm : (k = 4 ∧ m = 0) ∨ (k = 0 ∧ m = 2)) {s : Int} (s0 : 0 ≤ s) (s1 : s < (st.length : Int)) : ∃ v, M_lacks 121 s k g = some v ∧ ((v = 1 ∧ lkQ G st k m s) ∨ (v = 0 ∧ ¬ lkQ G st k m s)) := by
  obtain ⟨B, S, T, e59, Tr, Ts, l40⟩ := C
  have W := bm_W B
  have nt := wf_nt W
  have nn := wf_nn W
  have sl := Ts.1
  have ts := Ts.2 s s0 s1
  have sw := (wf_step W ts.2.1 ts.2.2).2
  have q148 : g 148 s = (sEnt st s).1 := (T.2 s s0 s1).1
  have eft : g 122 (sEnt st s).1 = ft G (sEnt st s).1 := (bm_X B).2.2.2.1 _ ts.2.1 (by omega)
  unfold M_lacks
  rw [if_pos kK_121, ss_at S (show ((49 : Int), (148 : Int)) ∈ ssL by decide), if_pos (show kK 148 = 21 ∧ (0 : Int) ≤ s ∧ s < kL 148 from ⟨kK_148, s0, by rw [kL_148]; omega⟩), q148]
  obtain ⟨r, e, q⟩ := loop_ok (body := fun q => M_lacks_L10 121 s k (sEnt st s).1 g q) (fun q => 0 ≤ q ∧ q ≤ 12 ∧ ∀ b, 0 ≤ b → b < q → ¬ lkB G st k m s b) (fun q => (13 - q).toNat) (fun r => (r = .inl () ∧ lkQ G st k m s) ∨ (r = .inr () ∧ ¬ lkQ G st k m s)) (by
    rintro x ⟨x0, x1, hx⟩
    unfold M_lacks_L10
    rw [if_pos kK_121, M_nodesOf_ok B ts.2.1 ts.2.2, ob_some]
    by_cases hd : ft G ((sEnt st s).1 + 1) - ft G (sEnt st s).1 ≤ x
    · right
      rw [if_pos hd]
      exact ⟨_, rfl, Or.inr ⟨rfl, fun ⟨b, hb, z⟩ => hx b hb.1 (by omega) z⟩⟩
    · rw [if_neg hd]
      have nI := ndS_in W ts.2.1 ts.2.2 x0 (show x < ft G ((sEnt st s).1 + 1) - ft G (sEnt st s).1 by omega)
      have n0 : 0 ≤ ndS G st s x := nI.1
      have n1 : ndS G st s x < nN G := nI.2.1
      have x12 : x < 12 := nI.2.2.2.1
      have ew : w32 (ft G (sEnt st s).1 + x) = ndS G st s x := by
        have ed : ndS G st s x = ft G (sEnt st s).1 + x := rfl
        rw [← ed]
        unfold w32
        omega
      have gx := (bm_X B).2.2.2.2.1 (ndS G st s x) n0 n1
      have go : ¬ lkB G st k m s x → M_lacks_j71 121 s k (sEnt st s).1 x g = some (.inl (x + 1)) ∧ (0 ≤ x + 1 ∧ x + 1 ≤ 12 ∧ ∀ b, 0 ≤ b → b < x + 1 → ¬ lkB G st k m s b) ∧ (13 - (x + 1)).toNat < (13 - x).toNat := by
        intro nb
        refine ⟨?_, ⟨by omega, by omega, fun b b0 b1 => ?_⟩, by omega⟩
        · unfold M_lacks_j71
          rw [show w32 (x + 1) = x + 1 by unfold w32; omega]
        · by_cases hb : b = x
          · rw [hb]; exact nb
          · exact hx b b0 (by omega)
      rw [ms_at (bm_S B) (show ((4 : Int), (122 : Int)) ∈ msL by decide), if_pos (show kK 122 = 21 ∧ (0 : Int) ≤ (sEnt st s).1 ∧ (sEnt st s).1 < kL 122 from ⟨kK_122, ts.2.1, by rw [kL_122]; omega⟩), eft, ew, ms_at (bm_S B) (show ((5 : Int), (123 : Int)) ∈ msL by decide), if_pos (show kK 123 = 21 ∧ (0 : Int) ≤ ndS G st s x ∧ ndS G st s x < kL 123 from ⟨kK_123, n0, by rw [kL_123]; omega⟩), gx.1, M_put_ok S T (by omega) s0 s1 x0 x12, ob_some, ms_at (bm_S B) (show ((7 : Int), (125 : Int)) ∈ msL by decide), if_pos (show kK 125 = 21 ∧ (0 : Int) ≤ ndS G st s x ∧ ndS G st s x < kL 125 from ⟨kK_125, n0, by rw [kL_125]; omega⟩), gx.2.2.1]
      by_cases hk : kd G (ndS G st s x) = k
      · rw [if_pos hk]
        by_cases hp : sPut st s x = -1
        · rw [if_pos hp]
          rcases hkm with ⟨k4, m0⟩ | ⟨k0, m2⟩
          · right
            have mz := (wf_nch W n0 n1 (by omega)).2.2
            rw [if_pos k4]
            exact ⟨_, rfl, Or.inl ⟨rfl, x, ⟨x0, by omega⟩, hk, by rw [mz, m0], hp⟩⟩
          · rw [if_neg (show ¬ k = 4 by omega)]
            by_cases hm : mk G (ndS G st s x) = 2
            · right
              rw [if_pos hm]
              exact ⟨_, rfl, Or.inl ⟨rfl, x, ⟨x0, by omega⟩, hk, by rw [hm, m2], hp⟩⟩
            · left
              rw [if_neg hm]
              exact ⟨_, go (fun z => hm (by rw [z.2.1, m2]))⟩
        · left
          rw [if_neg hp]
          exact ⟨_, go (fun z => hp z.2.2)⟩
      · left
        rw [if_neg hk]
        exact ⟨_, go (fun z => hk z.1)⟩) LN 0 ⟨Int.le_refl 0, by decide, fun b b0 b1 => by omega⟩ (by unfold LN; omega)
  rw [e, ob_some]
  rcases q with ⟨rfl, hq⟩ | ⟨rfl, hq⟩
  · exact ⟨1, rfl, Or.inl ⟨rfl, hq⟩⟩
  · exact ⟨0, rfl, Or.inr ⟨rfl, hq⟩⟩
theorem lack4_rf (C : CpE g G o8 n row ps st) (full : st.length = ps.length) {d : Nat} : ∃ r, loopN (fun q => M_test_L96 d 121 g q) LN 0 = some r ∧ ((r = .inr () ∧ lkF G st 4 0 (-1)) ∨ ∃ s, r = .inl s ∧ 0 ≤ s ∧ lkF G st 4 0 s) := by
  have e60 : g 121 60 = (ps.length : Int) := C.2.2.2.2.1.1
  have l40 := C.2.2.2.2.2.2
  obtain ⟨r, e, q⟩ := loop_ok (body := fun q => M_test_L96 d 121 g q) (fun q => 0 ≤ q ∧ q ≤ (st.length : Int) ∧ ∀ s, 0 ≤ s → s < q → ¬ lkQ G st 4 0 s) (fun q => (41 - q).toNat) (fun r => (r = .inr () ∧ lkF G st 4 0 (-1)) ∨ ∃ s, r = .inl s ∧ 0 ≤ s ∧ lkF G st 4 0 s) (by
    rintro x ⟨x0, x1, hx⟩
    unfold M_test_L96
    rw [if_pos kK_121, e60]
    by_cases hd : (ps.length : Int) ≤ x
    · right
      rw [if_pos hd]
      exact ⟨_, rfl, Or.inl ⟨rfl, Or.inl ⟨rfl, fun s s0 s1 => hx s s0 (by omega)⟩⟩⟩
    · have s1 : x < (st.length : Int) := by omega
      obtain ⟨v, ev, q⟩ := lack1_rf C (Or.inl ⟨rfl, rfl⟩) x0 s1
      rw [if_neg hd, ev, ob_some]
      rcases q with ⟨rfl, hq⟩ | ⟨rfl, hq⟩
      · right
        rw [if_neg (by decide)]
        exact ⟨_, rfl, Or.inr ⟨x, rfl, x0, Or.inr ⟨⟨x0, s1⟩, hq, hx⟩⟩⟩
      · left
        rw [if_pos rfl]
        refine ⟨x + 1, ?_, ⟨by omega, by omega, fun s a b => ?_⟩, by omega⟩
        · rw [show w32 (x + 1) = x + 1 by unfold w32; omega]
        · by_cases hs : s = x
          · rw [hs]; exact hq
          · exact hx s a (by omega)) LN 0 ⟨Int.le_refl 0, by omega, fun b b0 b1 => by omega⟩ (by unfold LN; omega)
  exact ⟨r, e, q⟩
theorem lack0_rf (C : CpE g G o8 n row ps st) (full : st.length = ps.length) {d : Nat} : ∃ r, loopN (fun q => M_test_L127 d 121 g q) LN 0 = some r ∧ ((r = .inr () ∧ lkF G st 0 2 (-1)) ∨ ∃ s, r = .inl s ∧ 0 ≤ s ∧ lkF G st 0 2 s) := by
  have e60 : g 121 60 = (ps.length : Int) := C.2.2.2.2.1.1
  have l40 := C.2.2.2.2.2.2
  obtain ⟨r, e, q⟩ := loop_ok (body := fun q => M_test_L127 d 121 g q) (fun q => 0 ≤ q ∧ q ≤ (st.length : Int) ∧ ∀ s, 0 ≤ s → s < q → ¬ lkQ G st 0 2 s) (fun q => (41 - q).toNat) (fun r => (r = .inr () ∧ lkF G st 0 2 (-1)) ∨ ∃ s, r = .inl s ∧ 0 ≤ s ∧ lkF G st 0 2 s) (by
    rintro x ⟨x0, x1, hx⟩
    unfold M_test_L127
    rw [if_pos kK_121, e60]
    by_cases hd : (ps.length : Int) ≤ x
    · right
      rw [if_pos hd]
      exact ⟨_, rfl, Or.inl ⟨rfl, Or.inl ⟨rfl, fun s s0 s1 => hx s s0 (by omega)⟩⟩⟩
    · have s1 : x < (st.length : Int) := by omega
      obtain ⟨v, ev, q⟩ := lack1_rf C (Or.inr ⟨rfl, rfl⟩) x0 s1
      rw [if_neg hd, ev, ob_some]
      rcases q with ⟨rfl, hq⟩ | ⟨rfl, hq⟩
      · right
        rw [if_neg (by decide)]
        exact ⟨_, rfl, Or.inr ⟨x, rfl, x0, Or.inr ⟨⟨x0, s1⟩, hq, hx⟩⟩⟩
      · left
        rw [if_pos rfl]
        refine ⟨x + 1, ?_, ⟨by omega, by omega, fun s a b => ?_⟩, by omega⟩
        · rw [show w32 (x + 1) = x + 1 by unfold w32; omega]
        · by_cases hs : s = x
          · rw [hs]; exact hq
          · exact hx s a (by omega)) LN 0 ⟨Int.le_refl 0, by omega, fun b b0 b1 => by omega⟩ (by unfold LN; omega)
  exact ⟨r, e, q⟩
end
