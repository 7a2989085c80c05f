section
variable {h : Hp} {o P sz : Int} {G : Gm} {ou : Int → Bool} {A : Ag} {V : Int → Prop} {S : SV} {D : SD}
theorem gSum_same (E : Ev h o P G sz ou A V) {D' : SD} {l i j a b : Int} (hd : ∀ u, 0 ≤ u → u < nT G → goB G ou u l 1 = true → D' 1 (ft G u) i j a b = D 1 (ft G u) i j a b ∨ S 1 (ft G u) i j a b = 0) : gSum G ou A S D' l i j a b = gSum G ou A S D l i j a b := by
  have L := E.2.2.2.1
  have nt := wf_nt E.1
  unfold gSum
  apply aI_congr
  intro u u0 u1
  cases hgu : goB G ou u l 1
  · rfl
  · rcases hd u u0 (by omega) hgu with e | e
    · rw [e]
    · simp only [e, ag_P0 L u0 (show u < 8 by omega), ite_self]
/-- a guest's root: its cell above, and the sum of the label's guests -/
theorem Tab_guest (E : Ev h o P G sz ou A V) (Q : AEq G ou A V sz S) (T : Tab h o P G sz ou A S D) {D' : SD} {t i j p q : Int} (t0 : 0 ≤ t) (t1 : t < nT G) (hs : sp G (ft G t) = 1) (hi : itm G 1 (ft G t) i j p q) (hj : j ≤ sz) (ho : ou t = false)
    (d0 : D 1 (ft G t) i j p q = false) (d1 : D' 1 (ft G t) i j p q = true)
    (d2 : ∀ half' node' i' j' p' q', ¬ (node' = ft G t ∧ i' = i ∧ j' = j ∧ p' = p ∧ q' = q ∧ half' = 1) → D' half' node' i' j' p' q' = D half' node' i' j' p' q') :
    ∃ h', Ch_addGuest o (ft G t) (cI i j p q) (S 1 (ft G t) i j p q) (hput h (o + 15) (rwN G 1 (ft G t) + cI i j p q) (S 1 (ft G t) i j p q)) = some h' ∧ Off o h h' ∧ Tab h' o P G sz ou A S D' := by
  have E1 := E.off (Off.p1 (s := rwN G 1 (ft G t) + cI i j p q) (v := S 1 (ft G t) i j p q))
  have W := E.1
  have L := E.2.2.2.1
  have nt := wf_nt W
  have nn := wf_nn W
  have C := E.2.2.1
  have z8 := C.2.2.2.2.2.2
  have kc := ChO_k C.1
  have rt := root_in W t0 t1
  have hk := (wf_root W t0 t1).1
  have hg : goB G ou t (lb G (ft G t)) 1 = true := goB_mk hs rfl ho
  have lbi := (wf_lb W rt.1 rt.2.1).1 (by omega)
  have vS := (Q _ _ _ _ _ _ hi hj).1
  have i0 := hi.2.2.2.1
  obtain ⟨e1, e2, e3⟩ : i ≤ p ∧ p ≤ q ∧ q ≤ j := by
    rcases hi.2.2.2.2.2.2 with ⟨-, a1, a2, a3⟩ | ⟨z, -⟩
    · exact ⟨a1, a2, a3⟩
    · omega
  have cin := cI_495 i0 e1 e2 e3 (show j ≤ 8 by omega)
  have ccp : cc p j = p := cc_yes j (by omega)
  have ccq : cc q j = q := cc_yes j (by omega)
  obtain ⟨a1, a2⟩ := Tab_put12 E T (D' := D') hi hj (by rw [rt.2.2]; exact ho) rfl (fun z => absurd hk z) (fun half' hh z => by rw [z hk]; exact d1) (by
    intro half' node' i' j' p' q' hi' hne
    exact d2 _ _ _ _ _ _ (fun z => hne ⟨z.1, z.2.1, z.2.2.1, z.2.2.2.1, z.2.2.2.2.1, fun _ => z.2.2.2.2.2⟩))
  rw [ccp, ccq] at a1 a2
  obtain ⟨k0, k1, k2, k3, k4, k5, k6, k7, k8, k9, k10, k11, k12, k13⟩ := GrO_k E.2.1.1
  have p13 : hput h (o + 15) (rwN G 1 (ft G t) + cI i j p q) (S 1 (ft G t) i j p q) (P + 13) = h (P + 13) := by
    funext x
    exact hput_ne1 ((off_P C.1 E.2.1.1).1 13 (by omega) (by omega)).1
  have gold : hput h (o + 15) (rwN G 1 (ft G t) + cI i j p q) (S 1 (ft G t) i j p q) (o + 16) (gRo (h (P + 13) (lb G (ft G t))) + cI i j p q) = gSum G ou A S D (lb G (ft G t)) i j p q := by
    rw [hput_ne1 (show o + 16 ≠ o + 15 by omega)]
    exact T.2.2 t _ i j p q t0 t1 hg i0 e1 e2 e3 hj
  have vG : V (gSum G ou A S D (lb G (ft G t)) i j p q) := gSum_V L W Q i0 e1 e2 e3 hj z8 D
  have gone := gSum_one E Q t0 t1 hj hi hs ho d0 d1 (fun node' i' j' p' q' hne => d2 1 node' i' j' p' q' (fun z => hne ⟨z.1, z.2.1, z.2.2.1, z.2.2.2.1, z.2.2.2.2.1⟩))
  obtain ⟨u, eu, u0, u1, lu⟩ := gRo_t E lbi.1 lbi.2 t0 t1 hg
  have grow : Ch_guestRow o (lb G (ft G t)) (hput h (o + 15) (rwN G 1 (ft G t) + cI i j p q) (S 1 (ft G t) i j p q)) = some (gRo (h (P + 13) (lb G (ft G t)))) := by
    rcases guestRow_ok E1 lbi.1 lbi.2 with ⟨-, hno⟩ | ⟨_, _, _, _, e, _, _⟩
    · have := hno t t0 t1
      rw [hg] at this
      simp at this
    · rw [e, p13]
  generalize hH : hput h (o + 15) (rwN G 1 (ft G t) + cI i j p q) (S 1 (ft G t) i j p q) = H at *
  have R1 := E1.2.1
  have C1 := E1.2.2.1
  have AR := agr E1
  have rr := R1.2.2.2.2.2.1 (ft G t) rt.1 rt.2.1
  have e7 : H P 7 = P + 2 := R1.2.1.2.1
  have e9 : H P 9 = P + 4 := R1.2.1.2.2.2.1
  have f2 : H (P + 2) (ft G t) = t := by rw [rr.1]; exact rt.2.2
  have f4 : H (P + 4) (ft G t) = lb G (ft G t) := rr.2.2.1
  have ew : w32 (gRo (h (P + 13) (lb G (ft G t))) + cI i j p q) = gRo (h (P + 13) (lb G (ft G t))) + cI i j p q := by unfold w32; omega
  refine ⟨hput H (o + 16) (gRo (h (P + 13) (lb G (ft G t))) + cI i j p q) (gSum G ou A S D' (lb G (ft G t)) i j p q), ?_, ?_, ?_, ?_, ?_⟩
  · unfold Ch_addGuest
    rw [C1.2.1, e9, f4, if_pos kc.1, if_pos k0, if_pos ⟨k4.1, rt.1, by rw [k4.2]; omega⟩, grow, ob_some, if_neg (by omega), e7, f2, if_pos ⟨k2.1, rt.1, by rw [k2.2]; omega⟩, AR.2.1 t _ t0 (by omega) vS, ob_some, ew, C1.2.2.2.2.1, if_pos ⟨kc.2.2.1, by omega, by rw [kc.2.2.2]; omega⟩, gold, (AR.1 _ _ vG (ag_P L t0 (by omega) vS)).1, ob_some, ← gone]
  · rw [← hH]
    exact Off.p1.tr Off.p2
  · intro half' node' i' j' p' q' hi' hj'
    rw [← a1 half' node' i' j' p' q' hi' hj']
    unfold tv
    exact hput_ne1 (by omega)
  · intro half' node' i' j' p' q' b1 b2 b3 b4 b5 b6 b7 b8 b9 b10
    rw [← a2 half' node' i' j' p' q' b1 b2 b3 b4 b5 b6 b7 b8 b9 b10]
    unfold tv
    exact hput_ne1 (by omega)
  · intro t' l' i' j' a b t0' t1' hg' i0' ia ab bj hj'
    have pp : hput H (o + 16) (gRo (h (P + 13) (lb G (ft G t))) + cI i j p q) (gSum G ou A S D' (lb G (ft G t)) i j p q) (P + 13) l' = h (P + 13) l' := by
      rw [hput_ne1 ((off_P C.1 E.2.1.1).1 13 (by omega) (by omega)).2, p13]
    rw [pp]
    have r' := root_in W t0' t1'
    have g' := goB_spec hg'
    have lb' := (wf_lb W r'.1 r'.2.1).1 (by have := (wf_root W t0' t1').1; omega)
    rw [g'.2.1] at lb'
    obtain ⟨u', eu', u0', u1', lu'⟩ := gRo_t E lb'.1 lb'.2 t0' t1' hg'
    have cin' := cI_495 i0' ia ab bj (show j' ≤ 8 by omega)
    by_cases he : l' = lb G (ft G t) ∧ i' = i ∧ j' = j ∧ a = p ∧ b = q
    · obtain ⟨rfl, rfl, rfl, rfl, rfl⟩ := he
      rw [hput_eq]
    · rw [hput_ne2, ← hH, hput_ne1 (show o + 16 ≠ o + 15 by omega), T.2.2 t' l' i' j' a b t0' t1' hg' i0' ia ab bj hj']
      · symm
        apply gSum_same E
        intro v v0 v1 hv
        left
        apply d2
        rintro ⟨z1, z2, z3, z4, z5, -⟩
        exact he ⟨by rw [← z1]; exact (goB_spec hv).2.1.symm, z2, z3, z4, z5⟩
      · intro e
        rw [eu, eu'] at e
        have huu : u' = u := by omega
        subst huu
        obtain ⟨y1, y2, y3, y4⟩ := cI_inj i0' ia ab bj (show j' ≤ 8 by omega) i0 e1 e2 e3 (show j ≤ 8 by omega) (by omega)
        exact he ⟨by rw [← lu', lu], y1, y2, y3, y4⟩
end
