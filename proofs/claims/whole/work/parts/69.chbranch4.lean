section
variable {h : Hp} {o P sz : Int} {G : Gm} {ou : Int → Bool} {A : Ag} {V : Int → Prop} {S : SV} {D : SD}
theorem cov_j {half node i j p q : Int} (hi : itm G half node i j p q) : i + cov i j p q ≤ j ∧ (sp G node = 0 → j = i + cov i j p q) := by
  rcases hi.2.2.2.2.2.2 with ⟨s, a1, a2, a3⟩ | ⟨s, rfl, rfl⟩
  · have := hi.2.2.2.1
    rw [cov_gap (by omega)]; omega
  · rw [cov_no]; omega
theorem branch_j (E : Ev h o P G sz ou A V) (Q : AEq G ou A V sz S) {node c x gu w : Int} (T : Tab h o P G sz ou A S (dB D node c x 0 0)) (n0 : 0 ≤ node) (n1 : node < nN G) (hk : kd G node = 0) (ho : ou (tr G node) = false) (c0 : 0 ≤ c) (x0 : 0 ≤ x) (hx : x + c ≤ sz) (hw : w = if sp G node = 0 then x + c else sz)
    (dn : ∀ half i j p q, itm G half node i j p q → cov i j p q = c → D half node i j p q = false)
    (hD : ∀ half' node' i' j' p' q' half i j p q, itm G half' node' i' j' p' q' → itm G half node i j p q → cov i j p q = c → bef G node' i' j' p' q' node i j p q → D half' node' i' j' p' q' = true)
    (hgu : (gu = 0 ∧ ¬ (sp G node = 1 ∧ node = ft G (tr G node))) ∨ (gu = 1 ∧ sp G node = 1 ∧ node = ft G (tr G node))) :
    ∃ h', loopN (fun q => Ch_fillBranch_L71 o node c (sp G node) gu x w q.1 q.2) LN (x + c, h) = some h' ∧ Off o h h' ∧ Tab h' o P G sz ou A S (dB D node c (x + 1) 0 0) := by
  have W := E.1
  have z8 := E.2.2.1.2.2.2.2.2.2
  have sn := (wf_sp W n0 n1).1
  have b1 : x + c ≤ w ∧ w ≤ sz ∧ (sp G node = 0 → w = x + c) ∧ (sp G node = 1 → w = sz) := by
    rcases sn with z | z
    · rw [if_pos z] at hw; omega
    · rw [if_neg (by omega)] at hw; omega
  clear hw
  obtain ⟨r, er, hoff, htab⟩ := loop_ok (body := fun q => Ch_fillBranch_L71 o node c (sp G node) gu x w q.1 q.2) (fun s => x + c ≤ s.1 ∧ s.1 ≤ w + 1 ∧ Off o h s.2 ∧ Tab s.2 o P G sz ou A S (dB D node c x s.1 0)) (fun s => (w + 1 - s.1).toNat) (fun r => Off o h r ∧ Tab r o P G sz ou A S (dB D node c x (w + 1) 0)) (by
    rintro ⟨y, h1⟩ ⟨y0, y1, hof, ht⟩
    simp only at y0 y1 hof ht ⊢
    have E1 := E.off hof
    unfold Ch_fillBranch_L71 Ch_fillBranch_j93 Ch_fillBranch_j106
    by_cases hy : y ≤ w
    · left
      rw [if_neg (by omega), show w32 (w32 (y - x) - c) = y - x - c by unfold w32; omega, show w32 (y + 1) = y + 1 by unfold w32; omega]
      obtain ⟨h2, e2, o2, t2⟩ := branch_p E1 Q (w := w) ht n0 n1 hk ho c0 x0 y0 (by omega) (fun z => by have := b1.2.2.1 z; omega) dn hD hgu
      rw [e2, ob_some]
      exact ⟨_, rfl, ⟨by simp only; omega, by simp only; omega, hof.tr o2, t2⟩, by simp only; omega⟩
    · right
      have hy' : y = w + 1 := by omega
      subst hy'
      rw [if_pos (by omega)]
      exact ⟨h1, rfl, hof, ht⟩) LN (x + c, h) ⟨Int.le_refl _, by simp only; omega, Off.rf, dB_nx E T (by
        intro half i j p q hi hj hc
        simp only
        have cj := cov_j hi
        have ci := cc_in hi
        rw [hc] at cj
        have := hi.2.2.2.2.1
        omega)⟩ (by unfold LN; simp only; omega)
  refine ⟨r, er, hoff, dB_nx (E.off hoff) htab ?_⟩
  intro half i j p q hi hj hc
  have cj := cov_j hi
  have ci := cc_in hi
  rw [hc] at cj
  have := hi.2.2.2.2.1
  rcases sn with z | z
  · have := b1.2.2.1 z
    have := cj.2 z
    omega
  · have := b1.2.2.2 z
    omega
theorem branch_i (E : Ev h o P G sz ou A V) (Q : AEq G ou A V sz S) {node c gu : Int} (T : Tab h o P G sz ou A S D) (n0 : 0 ≤ node) (n1 : node < nN G) (hk : kd G node = 0) (ho : ou (tr G node) = false) (c0 : 0 ≤ c) (c1 : c ≤ sz)
    (dn : ∀ half i j p q, itm G half node i j p q → cov i j p q = c → D half node i j p q = false)
    (hD : ∀ half' node' i' j' p' q' half i j p q, itm G half' node' i' j' p' q' → itm G half node i j p q → cov i j p q = c → bef G node' i' j' p' q' node i j p q → D half' node' i' j' p' q' = true)
    (hgu : (gu = 0 ∧ ¬ (sp G node = 1 ∧ node = ft G (tr G node))) ∨ (gu = 1 ∧ sp G node = 1 ∧ node = ft G (tr G node))) :
    ∃ h', loopN (fun q => Ch_fillBranch_L37 o node c (sp G node) gu q.1 q.2) LN (0, h) = some h' ∧ Off o h h' ∧ Tab h' o P G sz ou A S (dN D node c) := by
  have W := E.1
  have C := E.2.2.1
  have kc := ChO_k C.1
  have z8 := C.2.2.2.2.2.2
  obtain ⟨r, er, hoff, htab⟩ := loop_ok (body := fun q => Ch_fillBranch_L37 o node c (sp G node) gu q.1 q.2) (fun s => 0 ≤ s.1 ∧ s.1 ≤ sz - c + 1 ∧ Off o h s.2 ∧ Tab s.2 o P G sz ou A S (dB D node c s.1 0 0)) (fun s => (sz - c + 1 - s.1).toNat) (fun r => Off o h r ∧ Tab r o P G sz ou A S (dB D node c (sz - c + 1) 0 0)) (by
    rintro ⟨x, h1⟩ ⟨x0, x1, hof, ht⟩
    simp only at x0 x1 hof ht ⊢
    have E1 := E.off hof
    have C1 := E1.2.2.1
    unfold Ch_fillBranch_L37 Ch_fillBranch_j63
    rw [if_pos kc.1, C1.2.2.1, show w32 (x + c) = x + c by unfold w32; omega, show w32 (x + 1) = x + 1 by unfold w32; omega]
    by_cases hx : x + c ≤ sz
    · left
      rw [if_neg (by omega)]
      obtain ⟨h2, e2, o2, t2⟩ := branch_j E1 Q (w := if sp G node = 0 then x + c else sz) ht n0 n1 hk ho c0 x0 hx rfl dn hD hgu
      rw [e2, ob_some]
      exact ⟨_, rfl, ⟨by simp only; omega, by simp only; omega, hof.tr o2, t2⟩, by simp only; omega⟩
    · right
      have hx' : x = sz - c + 1 := by omega
      subst hx'
      rw [if_pos (by omega)]
      exact ⟨h1, rfl, hof, ht⟩) LN (0, h) ⟨Int.le_refl _, by simp only; omega, Off.rf, Tab_congr E T (by
        intro half node' i j p q hi _ _
        left
        simp only
        rw [dB_no]
        rintro ⟨-, -, z⟩
        have := hi.2.2.2.1
        have := hi.2.2.2.2.1
        have := cc_in hi
        omega)⟩ (by unfold LN; simp only; omega)
  refine ⟨r, er, hoff, Tab_congr (E.off hoff) htab ?_⟩
  intro half node' i j p q hi hj _
  left
  unfold dB dN
  congr 1
  have cj := cov_j hi
  apply decide_eq_decide.mpr
  constructor
  · rintro ⟨a, b, -⟩; exact ⟨a, b⟩
  · rintro ⟨a, b⟩; exact ⟨a, b, by omega⟩
end
