/-! steps, step, whose -/
theorem M_in_ok (a b c : Int) : M_in a b c = some (if b ≤ a ∧ a ≤ c then 1 else 0) := by
  unfold M_in M_in_j17
  by_cases h1 : a < b
  · rw [if_pos h1, if_neg (by omega)]
  · rw [if_neg h1]
    by_cases h2 : c < a
    · rw [if_pos h2, if_neg (by omega)]
    · rw [if_neg h2, if_pos (by omega)]
section
variable {h h' g g' : Hp} {P o8 n : Int} {G : Gm} {row : Int → Int}
/-- what holds before a question about a way -/
def PreW (h g : Hp) (P : Int) (G : Gm) (o8 n : Int) (row : Int → Int) : Prop := BX h P G o8 n row ∧ (0 ≤ h 0 17 ∧ h 0 17 < 512) ∧ (bit (h 0 17) 6 = 1 → CntOK h P G o8 n row) ∧ (bit (h 0 17) 8 = 1 → FndOK h G o8 n row) ∧ BM g G o8 n row ∧ SShp g
theorem found_both (A : PreW h g P G o8 n row) {d : Nat} (hd : 1953 ≤ d) (k : Int) :
    ∃ v h' g', X_findWay 0 k h = some (v, h') ∧ M_laysWay d 121 k g = some (v, g') ∧ XA h h' P G o8 n row ∧ LyF g g' ∧ (v < 0 ∨ (v = 0 ∧ ∃ t dv, (0 ≤ t ∧ t < nT G ∧ sp G (ft G t) = 0 ∧ Gu G dv) ∧ Sh G dv 1 (ft G t) ∧ dst dv ≤ 40 ∧ XWay h' G t dv ∧ MWay g' G n t dv)) ∧ BX h' P G o8 n row ∧ BM g' G o8 n row ∧ SShp g' := by
  obtain ⟨B, ⟨k0, k1⟩, hC, hF, Bg, S⟩ := A
  obtain ⟨v, h', g', x, y, X, L, w⟩ := find_both B k0 k1 hC hF Bg S hd k
  exact ⟨v, h', g', x, y, X, L, w, BX_vol X.1.1 B, BM_ly Bg L, SShp_ly S L⟩
theorem steps_ok (A : PreW h g P G o8 n row) {d : Nat} (hd : 1954 ≤ d) (k : Int) : ∃ v h' g', X_steps 0 k h = some (v, h') ∧ M_steps d 121 k g = some (v, g') ∧ XA h h' P G o8 n row ∧ LyF g g' := by
  obtain ⟨v, h', g', x, y, X, L, w, B', Bg', S'⟩ := found_both A (d := d - 1) (by omega) k
  rw [xq_steps_eq, mq_steps_eq, if_pos (by decide), if_pos kK_121, x, y, ob_some, ob_some]
  show ∃ v' h'' g'', xq_steps v h' = _ ∧ mq_steps d v g' = _ ∧ _
  unfold xq_steps mq_steps
  rcases w with w | ⟨w, t, dv, -, -, -, X', M'⟩
  · rw [if_neg (by omega), if_neg (by omega)]
    exact ⟨v, h', g', rfl, rfl, X, L⟩
  · subst w
    rw [if_pos (Int.le_refl 0), sx_at (bx_sx B') (show (0, 11, 59) ∈ shX by decide), if_pos kK_59, if_pos rfl, X'.1.1, M'.1.1]
    exact ⟨_, h', g', rfl, rfl, X, L⟩
theorem step_ok (A : PreW h g P G o8 n row) {d : Nat} (hd : 1954 ≤ d) (k i what : Int) : ∃ v h' g', X_step 0 k i what h = some (v, h') ∧ M_step d 121 k i what g = some (v, g') ∧ XA h h' P G o8 n row ∧ LyF g g' := by
  obtain ⟨v, h', g', x, y, X, L, w, B', Bg', S'⟩ := found_both A (d := d - 1) (by omega) k
  have I := bx_G B'
  rw [xq_step_eq, mq_step_eq, if_pos (by decide), if_pos kK_121, x, y, ob_some, ob_some]
  show ∃ v' h'' g'', xq_step i what v h' = _ ∧ mq_step d i what v g' = _ ∧ _
  unfold xq_step mq_step
  rcases w with w | ⟨w, t, dv, ⟨t0, t1, hs⟩, sh, db, X', M'⟩
  · rw [if_neg (by omega), if_neg (by omega)]
    exact ⟨v, h', g', rfl, rfl, X, L⟩
  · subst w
    obtain ⟨-, -, sl, -⟩ := stW_At I t0 t1 sh
    obtain ⟨-, -, hh⟩ := both_letters I Bg' t0 t1 sh X' M'
    have S := bx_sx B'
    rw [if_pos (Int.le_refl 0), sx_at S (show (0, 11, 59) ∈ shX by decide), if_pos kK_59, if_pos rfl, X'.1.1, M'.1.1, M_in_ok, ob_some, sx_at S (show (59, 4, 60) ∈ shX by decide), sx_at S (show (59, 5, 61) ∈ shX by decide), sx_at S (show (59, 6, 62) ∈ shX by decide), sx_at S (show (59, 7, 63) ∈ shX by decide), ss_at S' (show ((49 : Int), (148 : Int)) ∈ ssL by decide), ss_at S' (show ((50 : Int), (149 : Int)) ∈ ssL by decide), ss_at S' (show ((51 : Int), (150 : Int)) ∈ ssL by decide), ss_at S' (show ((52 : Int), (151 : Int)) ∈ ssL by decide)]
    have ew : w32 (((stW G t dv).length : Int) - 1) = (stW G t dv).length - 1 := by unfold w32; omega
    rw [ew]
    by_cases h0 : i < 0
    · rw [if_pos h0, if_neg (show ¬ (0 ≤ i ∧ i ≤ ((stW G t dv).length : Int) - 1) by omega), if_pos rfl]
      exact ⟨-2, h', g', rfl, rfl, X, L⟩
    rw [if_neg h0]
    by_cases h1 : i < ((stW G t dv).length : Int)
    · have xt := X'.1.2.1 i (by omega) h1
      have mt := M'.1.2 i (by omega) h1
      have hd' := hh i (by omega) h1
      have f0 : h' 60 i = g' 148 i := by rw [mt.1]; exact xt.1
      have f1 : h' 61 i = g' 149 i := by rw [mt.2.1]; exact xt.2.1
      have f2 : h' 62 i = g' 150 i := by rw [mt.2.2.1]; exact xt.2.2
      have f3 : h' 63 i = g' 151 i := hd'
      have kx : ∀ c, (c = 60 ∨ c = 61 ∨ c = 62 ∨ c = 63) → kK c = 21 ∧ (0 : Int) ≤ i ∧ i < kL c := by
        rintro c (rfl | rfl | rfl | rfl)
        · exact ⟨by decide, by omega, by rw [show kL 60 = 48 by decide]; omega⟩
        · exact ⟨by decide, by omega, by rw [show kL 61 = 48 by decide]; omega⟩
        · exact ⟨by decide, by omega, by rw [show kL 62 = 48 by decide]; omega⟩
        · exact ⟨by decide, by omega, by rw [show kL 63 = 48 by decide]; omega⟩
      have km : ∀ c, (c = 148 ∨ c = 149 ∨ c = 150 ∨ c = 151) → kK c = 21 ∧ (0 : Int) ≤ i ∧ i < kL c := by
        rintro c (rfl | rfl | rfl | rfl)
        · exact ⟨by decide, by omega, by rw [show kL 148 = 128 by decide]; omega⟩
        · exact ⟨by decide, by omega, by rw [show kL 149 = 128 by decide]; omega⟩
        · exact ⟨by decide, by omega, by rw [show kL 150 = 128 by decide]; omega⟩
        · exact ⟨by decide, by omega, by rw [show kL 151 = 128 by decide]; omega⟩
      rw [if_pos h1, if_pos (show 0 ≤ i ∧ i ≤ ((stW G t dv).length : Int) - 1 by omega), if_neg (show ¬ (1 : Int) = 0 by decide), if_pos (kx 60 (by decide)), if_pos (kx 61 (by decide)), if_pos (kx 62 (by decide)), if_pos (kx 63 (by decide)), if_pos (km 148 (by decide)), if_pos (km 149 (by decide)), if_pos (km 150 (by decide)), if_pos (km 151 (by decide)), f0, f1, f2, f3]
      by_cases w0 : what = 0
      · rw [if_pos w0, if_pos w0]; exact ⟨_, h', g', rfl, rfl, X, L⟩
      rw [if_neg w0, if_neg w0]
      by_cases w1 : what = 1
      · rw [if_pos w1, if_pos w1]; exact ⟨_, h', g', rfl, rfl, X, L⟩
      rw [if_neg w1, if_neg w1]
      by_cases w2 : what = 2
      · rw [if_pos w2, if_pos w2]; exact ⟨_, h', g', rfl, rfl, X, L⟩
      rw [if_neg w2, if_neg w2]
      by_cases w3 : what = 3
      · rw [if_pos w3, if_pos w3]; exact ⟨_, h', g', rfl, rfl, X, L⟩
      rw [if_neg w3, if_neg w3]
      exact ⟨_, h', g', rfl, rfl, X, L⟩
    · rw [if_neg h1, if_neg (show ¬ (0 ≤ i ∧ i ≤ ((stW G t dv).length : Int) - 1) by omega), if_pos rfl]
      exact ⟨-2, h', g', rfl, rfl, X, L⟩
theorem whose_ok (A : PreW h g P G o8 n row) {d : Nat} (hd : 1954 ≤ d) (k i what : Int) : ∃ v h' g', X_whose 0 k i what h = some (v, h') ∧ M_whose d 121 k i what g = some (v, g') ∧ XA h h' P G o8 n row ∧ LyF g g' := by
  obtain ⟨v, h', g', x, y, X, L, w, B', Bg', S'⟩ := found_both A (d := d - 1) (by omega) k
  have I := bx_G B'
  rw [xq_whose_eq, mq_whose_eq, if_pos (by decide), if_pos kK_121, x, y, ob_some, ob_some]
  show ∃ v' h'' g'', xq_whose i what v h' = _ ∧ mq_whose d i what v g' = _ ∧ _
  unfold xq_whose mq_whose
  rcases w with w | ⟨w, t, dv, ⟨t0, t1, hs⟩, sh, db, X', M'⟩
  · rw [if_neg (by omega), if_neg (by omega)]
    exact ⟨v, h', g', rfl, rfl, X, L⟩
  · subst w
    obtain ⟨hl, hn, -⟩ := both_letters I Bg' t0 t1 sh X' M'
    have S := bx_sx B'
    have nL := bm_L Bg'
    have e1 : h' 67 1 = n := by
      have := X'.2.2.1.1.1
      rw [List.length_map, hn] at this
      have t2 : h' 67 1 = ((min n.toNat 576 : Nat) : Int) := this
      rw [t2]
      have := nL.2.1
      have := nL.2.2.1
      omega
    rw [if_pos (Int.le_refl 0), sx_at S (show (0, 11, 59) ∈ shX by decide), if_pos kK_59, if_pos rfl, sx_at S (show (59, 10, 67) ∈ shX by decide), if_pos (show kK 67 = 0 by decide), e1, nL.1, M_in_ok, ob_some, M_in_ok, ob_some, sx_at S (show (59, 11, 69) ∈ shX by decide), sx_at S (show (59, 12, 70) ∈ shX by decide), ss_at S' (show ((54 : Int), (153 : Int)) ∈ ssL by decide), ss_at S' (show ((55 : Int), (154 : Int)) ∈ ssL by decide)]
    have n0 := nL.2.1
    have n8 := nL.2.2.1
    rw [show w32 (n - 1) = n - 1 by unfold w32; omega]
    by_cases h0 : i < 0
    · rw [if_pos h0, if_neg (show ¬ (0 ≤ i ∧ i ≤ n - 1) by omega), if_pos rfl]
      exact ⟨-2, h', g', rfl, rfl, X, L⟩
    rw [if_neg h0]
    by_cases h1 : n ≤ i
    · rw [if_pos h1, if_neg (show ¬ (0 ≤ i ∧ i ≤ n - 1) by omega), if_pos rfl]
      exact ⟨-2, h', g', rfl, rfl, X, L⟩
    rw [if_neg h1, if_pos (show 0 ≤ i ∧ i ≤ n - 1 by omega), if_neg (show ¬ (1 : Int) = 0 by decide)]
    have hli := (hl i.toNat (g' 153 i, g' 154 i)).mpr ⟨by omega, by rw [show ((i.toNat : Nat) : Int) = i by omega]⟩
    have ll := X'.2.2.1.2 i.toNat _ hli
    rw [show ((i.toNat : Nat) : Int) = i by omega] at ll
    have f0 : h' 69 i = g' 153 i := ll.1
    have f1 : h' 70 i = g' 154 i := ll.2
    by_cases w0 : what < 0
    · rw [if_pos w0, if_neg (show ¬ (0 ≤ what ∧ what ≤ 1) by omega), if_pos rfl]
      exact ⟨-2, h', g', rfl, rfl, X, L⟩
    rw [if_neg w0]
    by_cases w1 : what ≤ 1
    · rw [if_pos w1, if_pos (show 0 ≤ what ∧ what ≤ 1 by omega), if_neg (show ¬ (1 : Int) = 0 by decide), if_pos (show kK 69 = 21 ∧ (0 : Int) ≤ i ∧ i < kL 69 from ⟨kK_69, by omega, by rw [kL_69]; omega⟩), if_pos (show kK 70 = 21 ∧ (0 : Int) ≤ i ∧ i < kL 70 from ⟨kK_70, by omega, by rw [kL_70]; omega⟩), if_pos (show kK 153 = 21 ∧ (0 : Int) ≤ i ∧ i < kL 153 from ⟨kK_153, by omega, by rw [kL_153]; omega⟩), if_pos (show kK 154 = 21 ∧ (0 : Int) ≤ i ∧ i < kL 154 from ⟨kK_154, by omega, by rw [kL_154]; omega⟩), f0, f1]
      by_cases w2 : what = 0
      · rw [if_pos w2, if_pos w2]; exact ⟨_, h', g', rfl, rfl, X, L⟩
      · rw [if_neg w2, if_neg w2]; exact ⟨_, h', g', rfl, rfl, X, L⟩
    · rw [if_neg w1, if_neg (show ¬ (0 ≤ what ∧ what ≤ 1) by omega), if_pos rfl]
      exact ⟨-2, h', g', rfl, rfl, X, L⟩
end
