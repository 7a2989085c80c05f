/-! the class: fillPlace -/
def dI (D : SD) (node c x : Int) : SD := fun half' node' i' j' p' q' => D half' node' i' j' p' q' || decide (node' = node ∧ cov i' j' p' q' = c ∧ i' < x)
section
variable {h : Hp} {o P sz : Int} {G : Gm} {ou : Int → Bool} {A : Ag} {V : Int → Prop} {S : SV} {D : SD}
theorem dI_up {node c x half' node' i' j' p' q' : Int} (e : D half' node' i' j' p' q' = true) : dI D node c x half' node' i' j' p' q' = true := by
  unfold dI; rw [e]; rfl
theorem dI_no {node c x half' node' i' j' p' q' : Int} (e : ¬ (node' = node ∧ cov i' j' p' q' = c ∧ i' < x)) : dI D node c x half' node' i' j' p' q' = D half' node' i' j' p' q' := by
  unfold dI; rw [decide_eq_false e, Bool.or_false]
theorem dI_yes {node c x half' node' i' j' p' q' : Int} (e : node' = node ∧ cov i' j' p' q' = c ∧ i' < x) : dI D node c x half' node' i' j' p' q' = true := by
  unfold dI; rw [decide_eq_true e, Bool.or_true]
theorem gSum_dI (W : WF G) {node c x l i j a b : Int} (hr : ∀ t, 0 ≤ t → t < nT G → ft G t ≠ node) : gSum G ou A S (dI D node c x) l i j a b = gSum G ou A S D l i j a b := by
  unfold gSum
  apply aI_congr
  intro t t0 t1
  rw [dI_no (fun e => hr t t0 (by omega) e.1)]
theorem Ch_fillPlace_ok (E : Ev h o P G sz ou A V) (Q : AEq G ou A V sz S) (T : Tab h o P G sz ou A S D) {node c : Int} (n0 : 0 ≤ node) (n1 : node < nN G) (hk : kd G node = 4) (ho : ou (tr G node) = false) (c0 : 0 ≤ c) (c1 : c ≤ sz)
    (hD : ∀ half' node' i' j' p' q' half i j p q, itm G half' node' i' j' p' q' → itm G half node i j p q → cov i j p q = c → bef G node' i' j' p' q' node i j p q → D half' node' i' j' p' q' = true) :
    ∃ h', Ch_fillPlace o node c h = some h' ∧ Off o h h' ∧ Tab h' o P G sz ou A S (dI D node c (sz - c + 1)) := by
  have E' := E
  obtain ⟨W, R, C, L, _, U⟩ := E
  obtain ⟨k0, k1, k2, k3, k4, k5, k6, k7, k8, k9, k10, k11, k12, k13⟩ := GrO_k R.1
  have kc := ChO_k C.1
  have nn := wf_nn W
  have z8 := C.2.2.2.2.2.2
  have rr := R.2.2.2.2.2.1 node n0 n1
  have e9 : h P 9 = P + 4 := R.2.1.2.2.2.1
  have e17 : h P 17 = P + 12 := R.2.1.2.2.2.2.2.2.2.2.2.2.2.1
  have f4 : h (P + 4) node = lb G node := rr.2.2.1
  have lbi := (wf_lb W n0 n1).1 (by omega)
  have sp0 := (wf_sp W n0 n1).2.2.1 (by omega) (by omega)
  have hroot : ∀ t, 0 ≤ t → t < nT G → ft G t ≠ node := fun t t0 t1 e => by
    have := (wf_root W t0 t1).1
    rw [e] at this
    omega
  have hr := Ch_row_ok E' n0 n1 (half := 1) (Or.inr rfl)
  have r1 := rwN_in W n0 n1 (half := 1) (Or.inr rfl)
  have itx : ∀ x, 0 ≤ x → x + c ≤ sz → itm G 1 node x (x + c) (-1) (-1) := fun x x0 x1 => ⟨Or.inr rfl, n0, n1, x0, by omega, by omega, Or.inr ⟨sp0, rfl, rfl⟩⟩
  obtain ⟨r, er, hoff, htab⟩ := loop_ok (body := fun q => Ch_fillPlace_L29 o c (rwN G 1 node) (h (P + 12) (lb G node)) q.1 q.2) (fun s => 0 ≤ s.1 ∧ s.1 ≤ sz - c + 1 ∧ Off o h s.2 ∧ Tab s.2 o P G sz ou A S (dI D node c s.1)) (fun s => (sz - c + 1 - s.1).toNat) (fun r => Off o h r ∧ Tab r o P G sz ou A S (dI D node c (sz - c + 1))) (by
    rintro ⟨x, h1⟩ ⟨x0, x1, hof, ht⟩
    simp only at x0 x1 hof ht ⊢
    have E1 := E'.off hof
    have C1 := E1.2.2.1
    have ewc : w32 (x + c) = x + c := by unfold w32; omega
    have ewx : w32 (x + 1) = x + 1 := by unfold w32; omega
    unfold Ch_fillPlace_L29
    rw [if_pos kc.1, ewc, C1.2.2.1, C1.2.2.2.1, ewx]
    by_cases hx : x + c ≤ sz
    · left
      have it := itx x x0 hx
      have cell := Ch_cell_ok x0 (show x ≤ x + c by omega) (Int.le_refl (x + c)) (Int.le_refl (x + c)) (show x + c ≤ 8 by omega)
      have cin := cI_495 x0 (show x ≤ x + c by omega) (Int.le_refl (x + c)) (Int.le_refl (x + c)) (show x + c ≤ 8 by omega)
      have covx : cov x (x + c) (-1) (-1) = c := by rw [cov_no]; omega
      have p12 : h1 (P + 12) (lb G node) = h (P + 12) (lb G node) := hof _ _ ((off_P C.1 R.1).1 12 (by omega) (by omega)).1 ((off_P C.1 R.1).1 12 (by omega) (by omega)).2
      have ho1 := Ch_hostsOver_ok E1 Q ht (l := lb G node) (i := x) (j := x + c) lbi.1 lbi.2 x0 (by omega) hx (fun t t0 t1 hg => Or.inl (dI_up (by
        have g := goB_spec hg
        obtain ⟨f1, -⟩ := place_item W it hk t0 t1 g.1
        exact hD _ _ _ _ _ _ _ _ _ _ _ f1 it covx (bef_place W it hk t0 t1 g.1))))
      rw [p12] at ho1
      have hS : ∀ half', half' = 0 ∨ half' = 1 → S half' node x (x + c) (-1) (-1) = aHosts G ou A S (lb G node) x (x + c) := fun half' hh => (Q _ _ _ _ _ _ ⟨hh, it.2⟩ hx).2.2.2.2.2.1 hk
      have ew : w32 (rwN G 1 node + cI x (x + c) (x + c) (x + c)) = rwN G 1 node + cI x (x + c) (x + c) (x + c) := by unfold w32; omega
      rw [if_neg (by omega), cell, ob_some, ho1, ob_some, ew, if_pos ⟨kc.2.1.1, by omega, by rw [kc.2.1.2]; omega⟩]
      refine ⟨_, rfl, ⟨by simp only; omega, by simp only; omega, hof.tr Off.p1, ?_⟩, by simp only; omega⟩
      simp only
      have := Tab_put E1 ht (D' := dI D node c (x + 1)) (v := aHosts G ou A S (lb G node) x (x + c)) it hx ho (hS 1 (Or.inr rfl)).symm (fun _ half' hh => by rw [hS half' hh, hS 1 (Or.inr rfl)]) (fun half' hh _ => dI_yes ⟨rfl, covx, by omega⟩) (by
        intro half' node' i' j' p' q' hi' hne
        by_cases h1 : node' = node ∧ cov i' j' p' q' = c ∧ i' < x
        · rw [dI_yes h1, dI_yes ⟨h1.1, h1.2.1, by omega⟩]
        · rw [dI_no h1, dI_no]
          rintro ⟨rfl, e2, e3⟩
          rcases hi'.2.2.2.2.2.2 with ⟨s1, -⟩ | ⟨-, rfl, rfl⟩
          · omega
          · rw [cov_no] at e2
            have : i' = x := by
              apply Classical.byContradiction
              intro hn
              exact h1 ⟨rfl, by rw [cov_no]; exact e2, by omega⟩
            exact hne ⟨rfl, this, by omega, rfl, rfl, fun z => absurd z (by omega)⟩) (by
        intro t l i' j' a b t0 t1 hg _ _ _ _ _
        rw [gSum_dI W hroot, gSum_dI W hroot])
      rw [cc_no] at this
      exact this
    · right
      have hx' : x = sz - c + 1 := by omega
      subst hx'
      rw [if_pos (by omega)]
      exact ⟨h1, rfl, hof, ht⟩) LN (0, h) ⟨Int.le_refl _, by simp only; omega, Off.rf, Tab_congr E' T (by
        intro half node' i j p q hi _ _
        left
        rw [dI_no]
        rintro ⟨-, -, z⟩
        have := hi.2.2.2.1
        simp only at z
        omega)⟩ (by unfold LN; simp only; omega)
  refine ⟨r, ?_, hoff, htab⟩
  unfold Ch_fillPlace
  rw [if_pos kc.1, hr, ob_some, C.2.1, e9, e17, f4, if_pos k0, if_pos ⟨k4.1, n0, by rw [k4.2]; omega⟩, if_pos ⟨k12.1, lbi.1, by rw [k12.2]; exact lbi.2⟩, er, ob_some]
end
