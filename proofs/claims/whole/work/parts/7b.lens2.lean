/-! lengths: the reference -/
section
variable {h : Hp} {G : Gm} {ob n : Int} {row : Int → Int}
theorem F4.lk2 {h h' : Hp} (F : F4 h h') : Lk2 h h' := fun c s h1 _ h3 h4 h5 h6 => F c s (h1.elim Or.inl (fun z => Or.inr z.2.2.1)) h3 h4 h5 h6
theorem lenV_q {w : Int} (hw : w = 0 ∨ w = 1) : lenV G ob n row w = qv w (sumV G ob n row) := by
  unfold lenV qv fv
  rw [if_neg (show ¬ (w < 0 ∨ 1 < w) by omega)]
theorem M_lengths_ok (B : BM h G ob n row) {d : Nat} (hd : 1953 ≤ d) (w : Int) : ∃ h', M_lengths d 121 w h = some (lenV G ob n row w, h') ∧ Lk2 h h' := by
  unfold M_lengths M_in M_in_j17
  by_cases h0 : w < 0
  · rw [if_pos h0, ob_some, if_pos rfl]
    refine ⟨h, ?_, Lk2.rf⟩
    unfold lenV; rw [if_pos (Or.inl h0)]
  rw [if_neg h0]
  by_cases h1 : 1 < w
  · rw [if_pos h1, ob_some, if_pos rfl]
    refine ⟨h, ?_, Lk2.rf⟩
    unfold lenV; rw [if_pos (Or.inr h1)]
  have hw : w = 0 ∨ w = 1 := by omega
  rw [if_neg h1, ob_some, if_neg (by decide), if_pos kK_121]
  have I : GIn G := B.2.2.2.1
  have W := bm_W B
  have nt := wf_nt W
  have nn := wf_nn W
  have o := bm_ob B
  obtain ⟨l1, l2, l3, l4⟩ := bm_L B
  have eo := i_or_00 B
  obtain ⟨g, x, F, K, Z⟩ := M_looksAt_ok B (more := 0) (by omega) (by omega)
  rw [eo] at K
  have Q8 := aFix_AEq (ou := ouB ob) W (agS_law (g 138)) 8
  generalize hS : aFix G (ouB ob) (agS (g 138)) = S at Q8
  have Qn := AEq_row K.2.2.2 Q8 l3
  have mS : MemoS g G S := by
    intro b half node i j p q hb hi
    left
    have := mkey_in K.1 W hi
    rcases hb with rfl | rfl
    · exact (Z _ this.1 this.2).2.1
    · exact (Z _ this.1 this.2).2.2.1
  rw [x, ob_some]
  have sel : (if w = 1 then (1 : Int) else 0) = w := by rcases hw with rfl | rfl <;> rfl
  obtain ⟨n', g2, x2, B2, J2⟩ := bst_loop (b := w) (body := fun q => M_lengths_L22 d 121 w q.1 q.2.1 q.2.2) (lo := 0) (hi := nT G - 1) (c := -1) (T0 := fun _ => False) (T := fun t v => goB G (ouB ob) t (lb G 0) 0 = true ∧ S 1 (ft G t) 0 n (-1) (-1) ≠ 0 ∧ v = fv w (S 1 (ft G t) 0 n (-1) (-1)) + 1) (fun f => JS g f G (ouB ob) (g 138) S) (by omega) (by omega) (IsB_no (fun _ z => z)) ⟨F4.rf, K.2.1, mS⟩ (by
    intro m t f Ta t0 t1 hB1 Jf
    have Rf := RepM_4 K.1 Jf.1
    have e34 : f 121 34 = n := by rw [Jf.1 121 34 (Or.inr (by decide)) (by decide) (by decide) (by decide) (by decide)]; exact K.2.2.1
    have e6 : f 121 6 = 124 := ms_at Rf.1 (by decide)
    have st := wf_step W (t := 0) (by decide) (by omega)
    have fi := ft_in W (t := 1) (by decide) (by omega)
    have f0' := (wf_ft W).1
    rw [show (0 : Int) + 1 = 1 by decide] at st
    have e0 : f 124 0 = lb G 0 := (Rf.2.2.2.2.1 0 (by decide) (by omega)).2.1
    have y6 : kK 124 = 21 ∧ (0 : Int) ≤ 0 ∧ 0 < kL 124 := by decide
    simp only
    unfold M_lengths_L22 M_lengths_j90 M_start
    rw [if_pos kK_121, Rf.2.1, if_neg (by omega), if_pos kK_121, if_neg (by omega), e6, if_pos y6, ob_some, e0, M_mayGo_ok Rf W t0 (by omega), ob_some, show w32 (t + 1) = t + 1 by unfold w32; omega]
    cases hgo : goB G (ouB ob) t (lb G 0) 0
    · rw [if_pos (by decide)]
      exact ⟨m, f, rfl, IsB_c hB1 (fun v => ⟨Or.inl, fun z => z.elim id (fun y => absurd y.1 Bool.false_ne_true)⟩), Jf⟩
    · have hs := (goB_spec hgo).1
      have f2' := root_item W (i := 0) (j := n) t0 (show t < nT G by omega) hs (by decide) l2 l3
      have grr := gr_top I t0 (show t < nT G by omega) l2 l3
      have hfr := fr_max W f2'
      obtain ⟨g6, x6, J6⟩ := stepsIn_spec I Q8 (d - 1) w 1 (ft G t) 0 n (-1) (-1) f hw f2' (by omega) (by omega) Rf Jf.2.1 Jf.2.2
      have J6' : JS g g6 G (ouB ob) (g 138) S := ⟨Jf.1.tr J6.1, J6.2⟩
      have gv := itemGV (b := w) I Q8 f2' (by omega) (show gr G (ft G t) 0 n (-1) (-1) ≤ 40 by omega) (by decide) (by decide)
      have q50 : -1 ≤ qv w (S 1 (ft G t) 0 n (-1) (-1)) ∧ qv w (S 1 (ft G t) 0 n (-1) (-1)) < 1000 := by
        unfold qv
        split
        · omega
        · rename_i hz'
          have := fv_in (b := w) (gv.2.1 hz') (by decide)
          omega
      rw [if_neg (by decide), M_root_ok Rf W t0 (by omega), ob_some, sel, e34]
      unfold M_lengths_j69 M_lengths_j86 M_lengths_j90 M_stepsIn
      rw [if_pos kK_121, x6, ob_some]
      dsimp only
      rw [M_both_ok q50.1 q50.2 (by decide) (by decide), ob_some, if_pos kK_121, sel, M_best_ok, ob_some, show w32 (t + 1) = t + 1 by unfold w32; omega]
      refine ⟨_, g6, rfl, ?_, J6'⟩
      exact IsB_c (IsB_E hB1 (IsB_B gv.2.2 (IsB_one (b := w) (v := 1) (by decide)))) (fun v => ⟨fun z => z.elim Or.inl (fun ⟨u, y, hu, hy, hv⟩ => Or.inr ⟨by trivial, hu.1, by rw [hv, hu.2, hy]⟩), fun z => z.elim Or.inl (fun y => Or.inr ⟨_, 1, ⟨y.2.1, rfl⟩, rfl, y.2.2⟩)⟩)) (by
    intro m f Jf
    have Rf := RepM_4 K.1 Jf.1
    simp only
    unfold M_lengths_L22
    rw [if_pos kK_121, Rf.2.1, if_pos (by omega)])
  rw [x2, ob_some]
  refine ⟨g2, ?_, F.two.tr J2.1.lk2⟩
  have hl : n' = lenV G ob n row w := by
    rw [lenV_q hw]
    by_cases hz : nT G = 0
    · have e : qv w (sumV G ob n row) = -1 := by
        unfold sumV; rw [if_pos hz]; unfold qv; rw [if_pos rfl]
      rw [e]
      rcases B2 with ⟨z, -⟩ | ⟨-, z, -⟩
      · exact z
      · rcases z with z | ⟨t, ht, -⟩
        · exact False.elim z
        · omega
    · exact IsB_u (IsB_c B2 (fun v => ⟨fun z => z.elim False.elim id, Or.inr⟩)) (qv_sum (b := w) I Qn l2 l3 hz)
  rw [hl]
end
