/-! items: the reference -/
section
variable {h : Hp} {G : Gm} {ob n : Int} {row : Int → Int}
noncomputable def spB (h : Hp) (G : Gm) (ob n : Int) (row : Int → Int) (half node : Int) (s : Nat) : Bool := decide (h 141 s ≤ n ∧ (sp G node = if h 142 s = -1 then 0 else 1) ∧ wW G (ouB ob) row half node (h 140 s) (h 141 s) (h 142 s) (h 143 s) ≠ 0)
theorem span_itm (T : SpM h) {half node : Int} (hh : half = 0 ∨ half = 1) (n0 : 0 ≤ node) (n1 : node < nN G) {s : Int} (s0 : 0 ≤ s) (s1 : s < 540) (hs : sp G node = if h 142 s = -1 then 0 else 1) : itm G half node (h 140 s) (h 141 s) (h 142 s) (h 143 s) := by
  obtain ⟨a, b, c, d, -⟩ := T.2 s s0 s1
  refine ⟨hh, n0, n1, a, b, c, ?_⟩
  rcases d with ⟨d1, d2⟩ | d
  · rw [if_pos d1] at hs
    exact Or.inr ⟨hs, d1, d2⟩
  · rw [if_neg (by omega)] at hs
    exact Or.inl ⟨hs, d⟩
theorem node_spans (B : BM h G ob n row) {half node : Int} (hh : half = 0 ∨ half = 1) (n0 : 0 ≤ node) (n1 : node < nN G) : cnt (spB h G ob n row half node) 540 = cnt (itP G ob n row half node) 10000 := by
  have W := bm_W B
  have T : SpM h := B.2.1
  have s01 := (wf_sp W n0 n1).1
  refine cnt_bij (fun s => cdy (h 140 s) (h 141 s) (h 142 s) (h 143 s)) (fun y => (h 139 (y : Int)).toNat) ?_ ?_
  · intro s hs hp
    obtain ⟨p1, p2, p3⟩ := of_decide_eq_true hp
    have hi := span_itm T hh n0 n1 (s := s) (by omega) (by omega) p2
    obtain ⟨y0, yi⟩ := itP_at (ob := ob) (n := n) (row := row) hi
    obtain ⟨a, b, c, d, e⟩ := T.2 s (by omega) (by omega)
    refine ⟨y0, yi.mpr ⟨p1, p3⟩, ?_⟩
    show (h 139 ((cdy (h 140 s) (h 141 s) (h 142 s) (h 143 s) : Nat) : Int)).toNat = s
    have : ((cdy (h 140 s) (h 141 s) (h 142 s) (h 143 s) : Nat) : Int) = 1000 * h 140 s + 100 * h 141 s + 10 * h 142 s + h 143 s + 11 := by unfold cdy; omega
    rw [this, e]
    omega
  · intro y hy hp
    obtain ⟨hi, hj, hw⟩ := itP_iff.mp hp
    have yd := cdy_y (y := y)
    obtain ⟨a, b, c, d⟩ := itm_span hi
    generalize ((y / 1000 : Nat) : Int) = i at *
    generalize ((y / 100 % 10 : Nat) : Int) = j at *
    generalize ((y / 10 % 10 : Nat) : Int) - 1 = p at *
    generalize ((y % 10 : Nat) : Int) - 1 = q at *
    have ey : (y : Int) = 1000 * i + 100 * j + 10 * p + q + 11 := by unfold cdy at yd; omega
    obtain ⟨t0, t1, t2, t3, t4, t5⟩ := T.1 i j p q a b c d
    rw [← ey] at t0 t1 t2 t3 t4 t5
    have es : (((h 139 (y : Int)).toNat : Nat) : Int) = h 139 (y : Int) := by omega
    refine ⟨by omega, ?_, ?_⟩
    · unfold spB
      rw [es, t2, t3, t4, t5]
      apply decide_eq_true
      refine ⟨hj, ?_, hw⟩
      rcases hi.2.2.2.2.2.2 with ⟨z, z1⟩ | ⟨z, z1, z2⟩
      · rw [if_neg (by omega)]; exact z
      · rw [if_pos z1]; exact z
    · show cdy (h 140 (((h 139 (y : Int)).toNat : Nat) : Int)) (h 141 (((h 139 (y : Int)).toNat : Nat) : Int)) (h 142 (((h 139 (y : Int)).toNat : Nat) : Int)) (h 143 (((h 139 (y : Int)).toNat : Nat) : Int)) = y
      rw [es, t2, t3, t4, t5]
      exact yd
theorem M_items_ok (B : BM h G ob n row) {d : Nat} (hd : 1951 ≤ d) (half : Int) : ∃ h', M_items d 121 half h = some (itemsV G ob n row half, h') ∧ Lk h h' := by
  unfold M_items itemsV M_in M_in_j17
  by_cases h0 : half < 0
  · rw [if_pos h0, ob_some, if_pos rfl, if_pos (Or.inl h0)]; exact ⟨h, rfl, Lk.rf⟩
  rw [if_neg h0]
  by_cases h1 : 1 < half
  · rw [if_pos h1, ob_some, if_pos rfl, if_pos (Or.inr h1)]; exact ⟨h, rfl, Lk.rf⟩
  have hh : half = 0 ∨ half = 1 := by omega
  have W := bm_W B
  have nn := wf_nn W
  have nt := wf_nt W
  obtain ⟨l1, l2, l3, l4⟩ := bm_L B
  obtain ⟨g, x, F, K⟩ := M_look0 B
  rw [if_neg h1, ob_some, if_neg (by decide), if_pos kK_121, x, ob_some, if_neg (show ¬ (half < 0 ∨ 1 < half) by omega)]
  obtain ⟨r, er, p1, p2⟩ := loop_ok (body := fun q => M_items_L22 d 121 half q.1 q.2.1 q.2.2) (fun s => 0 ≤ s.2.1 ∧ s.2.1 ≤ nN G ∧ s.1 = (sI (fun node => itemN G ob n row half node) 0 (s.2.1 - 1) : Int) ∧ Lk h s.2.2 ∧ Look s.2.2 G ob n row) (fun s => (nN G - s.2.1).toNat) (fun r => r.1 = (sI (fun node => itemN G ob n row half node) 0 (nN G - 1) : Int) ∧ Lk h r.2) (by
    rintro ⟨c, nd', f⟩ ⟨x0, x1, hc, hF, hK⟩
    simp only at x0 x1 hc hF hK
    simp only
    have Bf := BM_lk B hF
    have Sf := bm_S Bf
    have Xf := bm_X Bf
    unfold M_items_L22 M_items_j152
    rw [if_pos kK_121, Xf.2.1]
    by_cases hx : nN G ≤ nd'
    · right
      exact ⟨(c, f), by rw [if_pos hx], by simp only; rw [hc, show nd' = nN G by omega], hF⟩
    · left
      have s15 : f 121 15 = 131 := ms_at Sf (by decide)
      have y15 : kK 131 = 21 ∧ (0 : Int) ≤ nd' ∧ nd' < kL 131 := ⟨kK_131, x0, by rw [kL_131]; omega⟩
      have etr : f 131 nd' = tr G nd' := (Xf.2.2.2.2.1 nd' x0 (by omega)).2.2.2.2.2.2.2.2
      have trn := wf_tr W x0 (show nd' < nN G by omega)
      have esp : f 130 nd' = sp G nd' := (Xf.2.2.2.2.1 nd' x0 (by omega)).2.2.2.2.2.2.2.1
      rw [if_neg hx, s15, if_pos y15, etr, M_isOut_ok Bf trn.1 (by omega), ob_some, show w32 (nd' + 1) = nd' + 1 by unfold w32; omega]
      have bd := sI_le (f := fun node => itemN G ob n row half node) (fun _ => items_le) nd'.toNat
      rw [show ((nd'.toNat : Nat) : Int) - 1 = nd' - 1 by omega] at bd
      cases ho : ouB ob (tr G nd')
      · rw [if_neg (fun z => Bool.noConfusion z), if_pos rfl]
        obtain ⟨r2, er2, q1, q2, q3⟩ := loop_ok (body := fun q => M_items_L49 d 121 half nd' q.1 q.2.1 q.2.2) (fun s => 0 ≤ s.2.1 ∧ s.2.1 ≤ 540 ∧ s.1 = c + (cnt (spB f G ob n row half nd') s.2.1.toNat : Int) ∧ D144 f s.2.2 ∧ Look s.2.2 G ob n row) (fun s => (540 - s.2.1).toNat) (fun r => r.1 = c + (cnt (spB f G ob n row half nd') 540 : Int) ∧ D144 f r.2 ∧ Look r.2 G ob n row) (by
          rintro ⟨c', s, f'⟩ ⟨s0, s1, hc', hD, hK'⟩
          simp only at s0 s1 hc' hD hK'
          simp only
          unfold M_items_L49 M_items_j93 M_items_j144 M_items_j146
          by_cases hs : 540 ≤ s
          · right
            refine ⟨(c', f'), by rw [if_pos hs], ?_, hD, hK'⟩
            simp only
            rw [hc', show s.toNat = 540 by omega]
          · left
            have e : ∀ a b, a ≠ 144 → f' a b = f a b := hD
            have t14 : f' 121 14 = 130 := by rw [e _ _ (by decide)]; exact ms_at Sf (by decide)
            have t37 : f' 121 37 = 140 := by rw [e _ _ (by decide)]; exact ms_at Sf (by decide)
            have t38 : f' 121 38 = 141 := by rw [e _ _ (by decide)]; exact ms_at Sf (by decide)
            have t39 : f' 121 39 = 142 := by rw [e _ _ (by decide)]; exact ms_at Sf (by decide)
            have t40 : f' 121 40 = 143 := by rw [e _ _ (by decide)]; exact ms_at Sf (by decide)
            have t32 : f' 121 32 = n := by rw [e _ _ (by decide)]; exact (bm_L Bf).1
            have y14 : kK 130 = 23 ∧ (0 : Int) ≤ nd' ∧ nd' < kL 130 := ⟨kK_130, x0, by rw [kL_130]; omega⟩
            have y37 : kK 140 = 21 ∧ (0 : Int) ≤ s ∧ s < kL 140 := ⟨by decide, s0, by rw [show kL 140 = 540 by decide]; omega⟩
            have y38 : kK 141 = 21 ∧ (0 : Int) ≤ s ∧ s < kL 141 := ⟨by decide, s0, by rw [show kL 141 = 540 by decide]; omega⟩
            have y39 : kK 142 = 21 ∧ (0 : Int) ≤ s ∧ s < kL 142 := ⟨by decide, s0, by rw [show kL 142 = 540 by decide]; omega⟩
            have y40 : kK 143 = 21 ∧ (0 : Int) ≤ s ∧ s < kL 143 := ⟨by decide, s0, by rw [show kL 143 = 540 by decide]; omega⟩
            have cl := cnt_le_n (spB f G ob n row half nd') s.toNat
            have step : ∀ b : Bool, spB f G ob n row half nd' s.toNat = b → (c + (cnt (spB f G ob n row half nd') (s + 1).toNat : Int)) = c' + (if b then 1 else 0) := by
              intro b hb
              rw [show (s + 1).toNat = s.toNat + 1 by omega, cnt_s, hb, hc']
              cases b
              · simp
              · simp; omega
            have sv : spB f G ob n row half nd' s.toNat = decide (f 141 s ≤ n ∧ (sp G nd' = if f 142 s = -1 then 0 else 1) ∧ wW G (ouB ob) row half nd' (f 140 s) (f 141 s) (f 142 s) (f 143 s) ≠ 0) := by
              unfold spB
              rw [show ((s.toNat : Nat) : Int) = s by omega]
            rw [if_neg hs, if_pos kK_121, t38, if_pos y38, t32, e 141 s (by decide), show w32 (s + 1) = s + 1 by unfold w32; omega]
            by_cases hj : n < f 141 s
            · rw [if_pos hj]
              refine ⟨(c', s + 1, f'), rfl, ⟨by simp only; omega, by simp only; omega, ?_, hD, hK'⟩, by simp only; omega⟩
              simp only
              rw [step false (by rw [sv]; exact decide_eq_false (fun z => by have := z.1; omega))]
              simp
            · rw [if_neg hj, t14, if_pos y14, e 130 nd' (by decide), esp, t39, if_pos y39, e 142 s (by decide)]
              by_cases hsp : sp G nd' = if f 142 s = -1 then 0 else 1
              · have hi := span_itm Bf.2.1 hh x0 (show nd' < nN G by omega) s0 (show s < 540 by omega) hsp
                obtain ⟨f2, x2, D2, K2⟩ := M_ask W hK' (d := d - 1) (by omega) hi (by omega)
                rw [if_pos hsp, if_pos kK_121, t37, if_pos y37, if_pos y38, t40, if_pos y39, if_pos y40, e 140 s (by decide), e 143 s (by decide), x2, ob_some]
                refine ⟨_, rfl, ⟨by simp only; omega, by simp only; omega, ?_, hD.tr D2, K2⟩, by simp only; omega⟩
                simp only [cap_le0]
                by_cases hz : wW G (ouB ob) row half nd' (f 140 s) (f 141 s) (f 142 s) (f 143 s) = 0
                · rw [step false (by rw [sv]; exact decide_eq_false (fun z => z.2.2 hz)), if_pos hz]
                  simp only [Bool.false_eq_true, if_false]
                  unfold w32; omega
                · rw [step true (by rw [sv]; exact decide_eq_true ⟨by omega, hsp, hz⟩), if_neg hz]
                  simp only [if_true]
                  unfold w32; omega
              · rw [if_neg hsp]
                refine ⟨(c', s + 1, f'), rfl, ⟨by simp only; omega, by simp only; omega, ?_, hD, hK'⟩, by simp only; omega⟩
                simp only
                rw [step false (by rw [sv]; exact decide_eq_false (fun z => hsp z.2.1))]
                simp) LN (c, 0, f) ⟨Int.le_refl _, by simp only; omega, by simp only; unfold cnt; simp, D144.rf, hK⟩ (by unfold LN; simp only; omega)
        rw [er2, ob_some]
        refine ⟨_, rfl, ⟨by simp only; omega, by simp only; omega, ?_, hF.tr (Lk.of144 q2), q3⟩, by simp only; omega⟩
        simp only
        rw [q1, node_spans Bf hh x0 (by omega), hc, show nd' + 1 - 1 = nd' by omega, sI_succ x0]
        unfold itemN
        rw [ho, if_neg (fun z => Bool.noConfusion z)]
        omega
      · rw [if_pos rfl, if_neg (by decide)]
        refine ⟨_, rfl, ⟨by simp only; omega, by simp only; omega, ?_, hF, hK⟩, by simp only; omega⟩
        simp only
        rw [hc, show nd' + 1 - 1 = nd' by omega, sI_succ x0]
        have : itemN G ob n row half nd' = 0 := by unfold itemN; rw [ho, if_pos rfl]
        rw [this]
        omega) LN (0, 0, g) ⟨Int.le_refl _, nn.1, by simp only; rw [sI_none (by omega)]; rfl, F, K⟩ (by unfold LN; simp only; omega)
  obtain ⟨r1, r2⟩ := r
  simp only at p1 p2
  rw [er, ob_some, p1]
  exact ⟨r2, rfl, p2⟩
end
