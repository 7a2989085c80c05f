def dN (D : SD) (node c : Int) : SD := fun half' node' i' j' p' q' => D half' node' i' j' p' q' || decide (node' = node ∧ cov i' j' p' q' = c)
section
variable {h : Hp} {o P sz : Int} {G : Gm} {ou : Int → Bool} {A : Ag} {V : Int → Prop} {S : SV} {D : SD}
theorem foot_loop (E : Ev h o P G sz ou A V) (Q : AEq G ou A V sz S) {node x : Int} (T : Tab h o P G sz ou A S (dJ D node (nd G node) x x)) (n0 : 0 ≤ node) (n1 : node < nN G) (hk : kd G node = 3) (ho : ou (tr G node) = false) (x0 : 0 ≤ x) (x1 : x ≤ sz) (hr : ∀ t, 0 ≤ t → t < nT G → ft G t ≠ node) :
    ∃ h', loopN (fun q => Ch_fillSign_L70 o node (rwN G 1 node) x q.1 q.2) LN (x, h) = some h' ∧ Off o h h' ∧ Tab h' o P G sz ou A S (dJ D node (nd G node) x (sz + 1)) := by
  have W := E.1
  have C := E.2.2.1
  have kc := ChO_k C.1
  have z8 := C.2.2.2.2.2.2
  have hn0 : nd G node = 0 := (wf_nd W n0 n1).2.2.1 (by omega)
  have sp1 := (wf_sp W n0 n1).2.1 hk
  have r1 := rwN_in W n0 n1 (half := 1) (Or.inr rfl)
  obtain ⟨r, er, hp⟩ := loop_ok (body := fun q => Ch_fillSign_L70 o node (rwN G 1 node) x q.1 q.2) (fun s => x ≤ s.1 ∧ s.1 ≤ sz + 1 ∧ Off o h s.2 ∧ Tab s.2 o P G sz ou A S (dJ D node (nd G node) x s.1)) (fun s => (sz + 1 - s.1).toNat) (fun r => Off o h r ∧ Tab r o P G sz ou A S (dJ D node (nd G node) x (sz + 1))) (by
    rintro ⟨y, h1⟩ ⟨y0, y1, hof, ht⟩
    simp only at y0 y1 hof ht ⊢
    have E1 := E.off hof
    have C1 := E1.2.2.1
    have ewy : w32 (y + 1) = y + 1 := by unfold w32; omega
    unfold Ch_fillSign_L70
    rw [if_pos kc.1, C1.2.2.1, C1.2.2.2.1, ewy]
    by_cases hy : y ≤ sz
    · left
      have it : itm G 1 node x y x y := ⟨Or.inr rfl, n0, n1, x0, y0, by omega, Or.inl ⟨sp1, Int.le_refl _, y0, Int.le_refl _⟩⟩
      have cell := Ch_cell_ok x0 (Int.le_refl x) y0 (Int.le_refl y) (show y ≤ 8 by omega)
      have cin := cI_495 x0 (Int.le_refl x) y0 (Int.le_refl y) (show y ≤ 8 by omega)
      have ew : w32 (rwN G 1 node + cI x y x y) = rwN G 1 node + cI x y x y := by unfold w32; omega
      rw [if_neg (by omega), cell, ob_some, (agr E1).2.2.2, ob_some, ew, if_pos ⟨kc.2.1.1, by omega, by rw [kc.2.1.2]; omega⟩]
      refine ⟨_, rfl, ⟨by simp only; omega, by simp only; omega, hof.tr Off.p1, ?_⟩, by simp only; omega⟩
      simp only
      have := sign_put E1 (v := a1 A) ht it hy (by omega) ho (by rw [cov_gap x0]; omega) (fun half' hh => by rw [(Q _ _ _ _ _ _ ⟨hh, it.2⟩ hy).2.2.2.2.1 hk, if_pos ⟨rfl, rfl⟩]) (by
        intro half' p' q' hi' hc'
        rcases hi'.2.2.2.2.2.2 with ⟨s1, d1, d2, d3⟩ | ⟨s0, -⟩
        · rw [cov_gap (by omega)] at hc'; omega
        · omega) hr
      rw [cc_yes y x0, cc_yes y (by omega)] at this
      exact this
    · right
      have hy' : y = sz + 1 := by omega
      subst hy'
      rw [if_pos (by omega)]
      exact ⟨h1, rfl, hof, ht⟩) LN (x, h) ⟨Int.le_refl _, by simp only; omega, Off.rf, T⟩ (by unfold LN; simp only; omega)
  exact ⟨r, er, hp.1, hp.2⟩
theorem Ch_fillSign_ok (E : Ev h o P G sz ou A V) (Q : AEq G ou A V sz S) (T : Tab h o P G sz ou A S D) {node : Int} (n0 : 0 ≤ node) (n1 : node < nN G) (hk : kd G node = 1 ∨ kd G node = 2 ∨ kd G node = 3) (ho : ou (tr G node) = false) :
    ∃ h', Ch_fillSign o node h = some h' ∧ Off o h h' ∧ Tab h' o P G sz ou A S (dN D node (nd G node)) := by
  have W := E.1
  have C := E.2.2.1
  have R := E.2.1
  obtain ⟨k0, k1, k2, k3, k4, k5, k6, k7, k8, k9, k10, k11, k12, k13⟩ := GrO_k R.1
  have kc := ChO_k C.1
  have nn := wf_nn W
  have z8 := C.2.2.2.2.2.2
  have z0 := C.2.2.2.2.2.1
  have ndw := wf_nd W n0 n1
  have spw := wf_sp W n0 n1
  have hroot : ∀ t, 0 ≤ t → t < nT G → ft G t ≠ node := fun t t0 t1 e => by
    have := (wf_root W t0 t1).1
    rw [e] at this
    omega
  have hr := Ch_row_ok E n0 n1 (half := 1) (Or.inr rfl)
  have r1 := rwN_in W n0 n1 (half := 1) (Or.inr rfl)
  obtain ⟨r, er, hoff, htab⟩ := loop_ok (body := fun q => Ch_fillSign_L9 o node (rwN G 1 node) q.1 q.2) (fun s => 0 ≤ s.1 ∧ s.1 ≤ sz + 1 ∧ Off o h s.2 ∧ Tab s.2 o P G sz ou A S (dJ D node (nd G node) s.1 s.1)) (fun s => (sz + 1 - s.1).toNat) (fun r => Off o h r ∧ Tab r o P G sz ou A S (dJ D node (nd G node) (sz + 1) (sz + 1))) (by
    rintro ⟨x, h1⟩ ⟨x0, x1, hof, ht⟩
    simp only at x0 x1 hof ht ⊢
    have E1 := E.off hof
    have C1 := E1.2.2.1
    have R1 := E1.2.1
    have rr := R1.2.2.2.2.2.1 node n0 n1
    have e8 : h1 P 8 = P + 3 := R1.2.1.2.2.1
    have e9 : h1 P 9 = P + 4 := R1.2.1.2.2.2.1
    have f3 : h1 (P + 3) node = kd G node := rr.2.1
    have f4 : h1 (P + 4) node = lb G node := rr.2.2.1
    have ewx : w32 (x + 1) = x + 1 := by unfold w32; omega
    unfold Ch_fillSign_L9 Ch_fillSign_j158
    rw [if_pos kc.1, C1.2.1, C1.2.2.1, C1.2.2.2.1, e8, e9, f3, f4, ewx]
    by_cases hx : x ≤ sz
    · left
      rw [if_neg (by omega), if_pos k0, if_pos ⟨k3.1, n0, by rw [k3.2]; omega⟩]
      rcases hk with hk | hk | hk
      · have hn1 : nd G node = 1 := ndw.2.1 hk
        have sp0 := spw.2.2.1 (by omega) (by omega)
        have lbi := (wf_lb W n0 n1).1 (by omega)
        rw [if_neg (by omega), if_neg (by omega)]
        by_cases hxs : sz ≤ x
        · rw [if_pos hxs]
          refine ⟨_, rfl, ⟨by simp only; omega, by simp only; omega, hof, ?_⟩, by simp only; omega⟩
          exact sign_nx E1 ht (fun half j' p' q' hi' hj' hc' => by
            rcases hi'.2.2.2.2.2.2 with ⟨s1, -⟩ | ⟨-, rfl, rfl⟩
            · omega
            · rw [cov_no] at hc'; omega) (by simp only; omega)
        · have it : itm G 1 node x (x + 1) (-1) (-1) := ⟨Or.inr rfl, n0, n1, x0, by omega, by omega, Or.inr ⟨sp0, rfl, rfl⟩⟩
          have cell := Ch_cell_ok x0 (show x ≤ x + 1 by omega) (Int.le_refl (x + 1)) (Int.le_refl (x + 1)) (show x + 1 ≤ 8 by omega)
          have cin := cI_495 x0 (show x ≤ x + 1 by omega) (Int.le_refl (x + 1)) (Int.le_refl (x + 1)) (show x + 1 ≤ 8 by omega)
          have ew : w32 (rwN G 1 node + cI x (x + 1) (x + 1) (x + 1)) = rwN G 1 node + cI x (x + 1) (x + 1) (x + 1) := by unfold w32; omega
          rw [if_neg hxs, cell, ob_some, if_pos ⟨k4.1, n0, by rw [k4.2]; omega⟩, (agr E1).2.2.1 x _ x0 (by rw [C1.2.2.1]; omega) lbi.1 lbi.2, ob_some, ew, if_pos ⟨kc.2.1.1, by omega, by rw [kc.2.1.2]; omega⟩]
          refine ⟨_, rfl, ⟨by simp only; omega, by simp only; omega, hof.tr Off.p1, ?_⟩, by simp only; omega⟩
          simp only
          have ht2 : Tab h1 o P G sz ou A S (dJ D node (nd G node) x (x + 1)) := Tab_congr E1 ht (by
            intro half node' i j p q hi hj _
            left
            by_cases h2 : node' = node ∧ cov i j p q = nd G node ∧ (i < x ∨ (i = x ∧ j < x))
            · rw [dJ_yes h2, dJ_yes ⟨h2.1, h2.2.1, by omega⟩]
            · rw [dJ_no h2, dJ_no]
              rintro ⟨rfl, e2, e3⟩
              apply h2
              refine ⟨rfl, e2, ?_⟩
              rcases hi.2.2.2.2.2.2 with ⟨s1, -⟩ | ⟨-, rfl, rfl⟩
              · omega
              · rw [cov_no] at e2; omega)
          have := sign_put E1 (v := aL A x (lb G node)) ht2 it (by omega) (by omega) ho (by rw [cov_no]; omega) (fun half' hh => by rw [(Q _ _ _ _ _ _ ⟨hh, it.2⟩ (by omega)).2.2.1 hk, if_pos rfl]) (by
            intro half' p' q' hi' hc'
            rcases hi'.2.2.2.2.2.2 with ⟨s1, -⟩ | ⟨-, d1, d2⟩
            · omega
            · exact ⟨d1, d2⟩) hroot
          rw [cc_no] at this
          exact sign_nx (E1.off Off.p1) this (fun half j' p' q' hi' hj' hc' => by
            rcases hi'.2.2.2.2.2.2 with ⟨s1, -⟩ | ⟨-, rfl, rfl⟩
            · omega
            · rw [cov_no] at hc'; omega) (by omega)
      · have hn0 : nd G node = 0 := ndw.2.2.1 (by omega)
        have sp0 := spw.2.2.1 (by omega) (by omega)
        have it : itm G 1 node x x (-1) (-1) := ⟨Or.inr rfl, n0, n1, x0, by omega, by omega, Or.inr ⟨sp0, rfl, rfl⟩⟩
        have cell := Ch_cell_ok x0 (Int.le_refl x) (Int.le_refl x) (Int.le_refl x) (show x ≤ 8 by omega)
        have cin := cI_495 x0 (Int.le_refl x) (Int.le_refl x) (Int.le_refl x) (show x ≤ 8 by omega)
        have ew : w32 (rwN G 1 node + cI x x x x) = rwN G 1 node + cI x x x x := by unfold w32; omega
        rw [if_pos hk, cell, ob_some, (agr E1).2.2.2, ob_some, ew, if_pos ⟨kc.2.1.1, by omega, by rw [kc.2.1.2]; omega⟩]
        refine ⟨_, rfl, ⟨by simp only; omega, by simp only; omega, hof.tr Off.p1, ?_⟩, by simp only; omega⟩
        simp only
        have := sign_put E1 (v := a1 A) ht it hx (by omega) ho (by rw [cov_no]; omega) (fun half' hh => by rw [(Q _ _ _ _ _ _ ⟨hh, it.2⟩ hx).2.2.2.1 hk, if_pos rfl]) (by
          intro half' p' q' hi' hc'
          rcases hi'.2.2.2.2.2.2 with ⟨s1, -⟩ | ⟨-, d1, d2⟩
          · omega
          · exact ⟨d1, d2⟩) hroot
        rw [cc_no] at this
        exact sign_nx (E1.off Off.p1) this (fun half j' p' q' hi' hj' hc' => by
          rcases hi'.2.2.2.2.2.2 with ⟨s1, -⟩ | ⟨-, rfl, rfl⟩
          · omega
          · rw [cov_no] at hc'; omega) (by omega)
      · rw [if_neg (by omega), if_pos hk]
        obtain ⟨h2, e2, o2, t2⟩ := foot_loop E1 Q ht n0 n1 hk ho x0 hx hroot
        rw [e2, ob_some]
        refine ⟨_, rfl, ⟨by simp only; omega, by simp only; omega, hof.tr o2, ?_⟩, by simp only; omega⟩
        exact sign_nx (E1.off o2) t2 (fun half j' p' q' hi' hj' hc' => by omega) (by simp only; omega)
    · right
      have hx' : x = sz + 1 := by omega
      subst hx'
      rw [if_pos (by omega)]
      exact ⟨h1, rfl, hof, ht⟩) LN (0, h) ⟨Int.le_refl _, by simp only; omega, Off.rf, Tab_congr E T (by
        intro half node' i j p q hi _ _
        left
        rw [dJ_no]
        rintro ⟨-, -, z⟩
        have := hi.2.2.2.1
        have := hi.2.2.2.2.1
        simp only at z
        omega)⟩ (by unfold LN; simp only; omega)
  refine ⟨r, ?_, hoff, ?_⟩
  · unfold Ch_fillSign
    rw [if_pos kc.1, hr, ob_some, er, ob_some]
  · refine Tab_congr (E.off hoff) htab ?_
    intro half node' i j p q hi hj _
    left
    unfold dJ dN
    congr 1
    have := hi.2.2.2.2.1
    apply decide_eq_decide.mpr
    constructor
    · rintro ⟨a, b, -⟩; exact ⟨a, b⟩
    · rintro ⟨a, b⟩; exact ⟨a, b, by omega⟩
end
