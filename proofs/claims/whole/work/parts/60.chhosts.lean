/-! the class: hosts over a span -/
section
variable {h : Hp} {o P sz : Int} {G : Gm} {ou : Int → Bool} {A : Ag} {V : Int → Prop} {S : SV} {D : SD}
/-- items that differ in being done, and are worth nothing, don't matter -/
theorem Tab_congr (E : Ev h o P G sz ou A V) (T : Tab h o P G sz ou A S D) {D' : SD} (hd : ∀ half node i j p q, itm G half node i j p q → j ≤ sz → ou (tr G node) = false → D half node i j p q = D' half node i j p q ∨ S half node i j p q = 0) : Tab h o P G sz ou A S D' := by
  have W := E.1
  have L := E.2.2.2.1
  have nt := wf_nt W
  have z8 := E.2.2.1.2.2.2.2.2.2
  refine ⟨?_, T.2.1, ?_⟩
  · intro half node i j p q hi hj
    rw [T.1 _ _ _ _ _ _ hi hj]
    by_cases ho : ou (tr G node) = false
    · rcases hd _ _ _ _ _ _ hi hj ho with e | e
      · rw [e]
      · rw [e, ite_self, ite_self]
    · rw [if_neg (fun x => ho x.1), if_neg (fun x => ho x.1)]
  · intro t l i j a b t0 t1 hg i0 ia ab bj hj
    rw [T.2.2 t l i j a b t0 t1 hg i0 ia ab bj hj]
    unfold gSum
    apply aI_congr
    intro u u0 u1
    cases hgu : goB G ou u l 1
    · rfl
    · have g := goB_spec hgu
      have r := root_in W u0 (show u < nT G by omega)
      rcases hd 1 (ft G u) i j a b ⟨Or.inr rfl, r.1, r.2.1, i0, by omega, by omega, Or.inl ⟨g.1, ia, ab, bj⟩⟩ hj (by rw [r.2.2]; exact g.2.2) with e | e
      · rw [e]
      · simp only [e, ag_P0 L u0 (show u < 8 by omega), ite_self]
theorem Ch_hostsOver_ok (E : Ev h o P G sz ou A V) (Q : AEq G ou A V sz S) (T : Tab h o P G sz ou A S D) {l i j : Int} (l0 : 0 ≤ l) (l1 : l < 26) (i0 : 0 ≤ i) (ij : i ≤ j) (hj : j ≤ sz)
    (hD : ∀ t, 0 ≤ t → t < nT G → goB G ou t l 0 = true → D 1 (ft G t) i j (-1) (-1) = true ∨ S 1 (ft G t) i j (-1) (-1) = 0) :
    Ch_hostsOver o (h (P + 12) l) i j h = some (aHosts G ou A S l i j) := by
  have E' := E
  obtain ⟨W, R, C, L, _, U⟩ := E
  obtain ⟨k0, k1, -⟩ := GrO_k R.1
  have c0 := ChO_k C.1
  have nt := wf_nt W
  have z8 := C.2.2.2.2.2.2
  have e6 : h P 6 = P + 1 := R.2.1.1
  have AR := agr E'
  have itr : ∀ t, 0 ≤ t → t < nT G → sp G (ft G t) = 0 → itm G 1 (ft G t) i j (-1) (-1) := fun t t0 t1 hs => by
    have r := root_in W t0 t1
    exact ⟨Or.inr rfl, r.1, r.2.1, i0, ij, by omega, Or.inr ⟨hs, rfl, rfl⟩⟩
  have vf : ∀ t, 0 ≤ t → t ≤ nT G - 1 → V (if goB G ou t l 0 then aP A t (S 1 (ft G t) i j (-1) (-1)) else 0) := by
    intro t t0 t1
    split
    · rename_i hg
      exact ag_P L t0 (by omega) (Q _ _ _ _ _ _ (itr t t0 (by omega) (goB_spec hg).1) hj).1
    · exact ag_0 L
  unfold Ch_hostsOver aHosts
  rw [acc_lp L (f := fun t => if goB G ou t l 0 then aP A t (S 1 (ft G t) i j (-1) (-1)) else 0) (lo := 0) (hi := nT G - 1) (acc0 := 0) (by omega) (by omega) (ag_0 L) vf (by
    intro acc t t0 t1 va
    have hb := (R.2.2.2.2.2.2.1 l l0 l1 t t0 (by omega)).1
    unfold bit at hb
    have ew : w32 (t + 1) = t + 1 := by unfold w32; omega
    have r := root_in W t0 (show t < nT G by omega)
    have hft : h (P + 1) t = ft G t := R.2.2.2.2.1 t t0 (by omega)
    simp only
    unfold Ch_hostsOver_L6 Ch_hostsOver_j81 Ch_hostsOver_j83
    rw [C.2.1, e6, if_pos c0.1, if_pos k0, R.2.2.1, if_neg (by omega), hb, hft, ew]
    by_cases hc : t < nT G ∧ sp G (ft G t) = 0 ∧ lb G (ft G t) = l
    · have it := itr t t0 (by omega) hc.2.1
      have vS := (Q _ _ _ _ _ _ it hj).1
      have vi := val_item E' T it hj
      rw [cc_no] at vi
      rw [if_pos hc, if_pos rfl, if_pos ⟨k1.1, t0, by rw [k1.2]; omega⟩, vi, ob_some]
      by_cases ho : ou t = false
      · have hg := goB_mk (G := G) (ou := ou) hc.2.1 hc.2.2 ho
        rw [if_pos hg]
        have hval : tY G ou S D 1 (ft G t) i j (-1) (-1) = S 1 (ft G t) i j (-1) (-1) := by
          rcases hD t t0 (by omega) hg with z | z
          · exact tY_is (by rw [r.2.2]; exact ho) z
          · rcases tY_or (G := G) (ou := ou) (S := S) (D := D) (half := 1) (node := ft G t) (i := i) (j := j) (p := -1) (q := -1) with y | y
            · exact y
            · rw [y, z]
        rw [hval]
        by_cases hz : S 1 (ft G t) i j (-1) (-1) = 0
        · rw [if_pos hz, hz, ag_P0 L t0 (by omega), ag_E0 L va]
        · rw [if_neg hz, AR.2.1 t _ t0 (by omega) vS, ob_some, (AR.1 acc _ va (ag_P L t0 (by omega) vS)).1, ob_some]
      · have hg : goB G ou t l 0 = false := by
          cases hgg : goB G ou t l 0
          · rfl
          · exact absurd (goB_spec hgg).2.2 ho
        have hval : tY G ou S D 1 (ft G t) i j (-1) (-1) = 0 := by
          unfold tY
          rw [if_neg (fun x => ho (by rw [← r.2.2]; exact x.1))]
        rw [if_pos hval, hg]
        simp only [Bool.false_eq_true, if_false]
        rw [ag_E0 L va]
    · have hg : goB G ou t l 0 = false := by
        cases hgg : goB G ou t l 0
        · rfl
        · exact absurd ⟨by omega, (goB_spec hgg).1, (goB_spec hgg).2.1⟩ hc
      rw [if_neg hc, if_neg (by decide), hg]
      simp only [Bool.false_eq_true, if_false]
      rw [ag_E0 L va]) (by
    intro acc va
    simp only
    unfold Ch_hostsOver_L6
    rw [C.2.1, if_pos c0.1, if_pos k0, R.2.2.1, if_pos (by omega)]), ob_some, ag_0E L (aI_V L vf)]
end
