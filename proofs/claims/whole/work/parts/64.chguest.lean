/-! the class: a branch's cell above, and its guests' sum -/
section
variable {h : Hp} {o P sz : Int} {G : Gm} {ou : Int → Bool} {A : Ag} {V : Int → Prop} {S : SV} {D : SD}
/-- rows of two labels' guests are two -/
theorem gRo_t (E : Ev h o P G sz ou A V) {t l : Int} (l0 : 0 ≤ l) (l1 : l < 26) (t0 : 0 ≤ t) (t1 : t < nT G) (hg : goB G ou t l 1 = true) : ∃ u, gRo (h (P + 13) l) = u * 495 ∧ 0 ≤ u ∧ u < nT G ∧ lb G (ft G u) = l := by
  obtain ⟨W, R, C, L, _, U⟩ := E
  have nt := wf_nt W
  have hb := R.2.2.2.2.2.2.1 l l0 l1
  have hr := R.2.2.2.2.2.2.2.1 l l0 l1
  have g := goB_spec hg
  have xpos : 0 < h (P + 13) l := by
    rcases Int.lt_or_eq_of_le hr.2.2.1 with z | z
    · exact z
    · exfalso
      have h1 := (hb t t0 (by omega)).2
      rw [if_pos ⟨t1, g.1, g.2.1⟩, ← z] at h1
      have h2 : ∀ t : Fin 8, bit 0 (t.val : Int) = 0 := by decide +kernel
      have h3 := h2 ⟨t.toNat, by omega⟩
      simp only at h3
      rw [show ((t.toNat : Nat) : Int) = t by omega] at h3
      omega
  obtain ⟨u, u0, u1, eu, bu⟩ := ntz_ok xpos hr.2.2.2
  rw [(hb u u0 u1).2] at bu
  by_cases hc : u < nT G ∧ sp G (ft G u) = 1 ∧ lb G (ft G u) = l
  · exact ⟨u, by unfold gRo; rw [eu]; rfl, u0, hc.1, hc.2.2⟩
  · rw [if_neg hc] at bu
    omega
/-- one item more is done: of the sums of guests one alone may change -/
theorem gSum_one (E : Ev h o P G sz ou A V) (Q : AEq G ou A V sz S) {D' : SD} {t i j a b : Int} (t0 : 0 ≤ t) (t1 : t < nT G) (hj : j ≤ sz) (it : itm G 1 (ft G t) i j a b) (hs : sp G (ft G t) = 1) (ho : ou t = false) (d0 : D 1 (ft G t) i j a b = false) (d1 : D' 1 (ft G t) i j a b = true)
    (d2 : ∀ node' i' j' p' q', ¬ (node' = ft G t ∧ i' = i ∧ j' = j ∧ p' = a ∧ q' = b) → D' 1 node' i' j' p' q' = D 1 node' i' j' p' q') :
    gSum G ou A S D' (lb G (ft G t)) i j a b = aE A (gSum G ou A S D (lb G (ft G t)) i j a b) (aP A t (S 1 (ft G t) i j a b)) := by
  have W := E.1
  have L := E.2.2.2.1
  have nt := wf_nt W
  have rt := root_in W t0 t1
  have hg : goB G ou t (lb G (ft G t)) 1 = true := goB_mk hs rfl ho
  have hne : ∀ u, 0 ≤ u → u < nT G → u ≠ t → ft G u ≠ ft G t := fun u u0 u1 hu e => by
    have ru := root_in W u0 u1
    rw [e, rt.2.2] at ru
    exact hu ru.2.2.symm
  unfold gSum
  rw [aI_put L (f := fun u => if goB G ou u (lb G (ft G t)) 1 && D 1 (ft G u) i j a b then aP A u (S 1 (ft G u) i j a b) else 0) (t := t) t0 (by omega) (by
    intro u u0 u1
    split
    · rename_i hgu
      simp only [Bool.and_eq_true] at hgu
      have g := goB_spec hgu.1
      have r := root_in W u0 (show u < nT G by omega)
      rcases it.2.2.2.2.2.2 with ⟨-, e1, e2, e3⟩ | ⟨e0, -⟩
      · exact ag_P L u0 (by omega) (Q 1 (ft G u) i j a b ⟨Or.inr rfl, r.1, r.2.1, it.2.2.2.1, it.2.2.2.2.1, it.2.2.2.2.2.1, Or.inl ⟨g.1, e1, e2, e3⟩⟩ hj).1
      · omega
    · exact ag_0 L) (by
    intro u u0 u1
    by_cases hu : u = t
    · subst hu
      rw [if_pos rfl, hg, d0]
      rfl
    · rw [if_neg hu, d2 (ft G u) i j a b (fun e => hne u u0 (by omega) hu e.1)])]
  congr 1
  rw [hg, d1]
  rfl
end
