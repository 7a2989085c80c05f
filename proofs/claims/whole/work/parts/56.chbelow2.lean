def sLo (G : Gm) (node i q : Int) : Int := if sp G (c1 G node) = 1 then q else i
def sHi (G : Gm) (node j p : Int) : Int := if sp G (c1 G node) = 1 then j else if sp G node = 1 then p else j
theorem split_bnd {G : Gm} (W : WF G) {node i j p q : Int} (hi : itm G 0 node i j p q) (hk : kd G node = 0) (hu : c2 G node ≠ -1) :
    (if sp G (c1 G node) = 0 then i else cc q j) = sLo G node i q ∧ (if sp G (c1 G node) = 0 then cc p j else j) = sHi G node j p ∧ i ≤ sLo G node i q ∧ sLo G node i q ≤ sHi G node j p ∧ sHi G node j p ≤ j ∧
    (∀ k, sLo G node i q ≤ k → k ≤ sHi G node j p → ¬ (sp G (c1 G node) = 1 ∧ k < q) ∧ ¬ (sp G (c2 G node) = 1 ∧ p < k)) ∧ (sp G (c1 G node) = 0 ∨ sp G (c1 G node) = 1) ∧ (sp G (c2 G node) = 0 ∨ sp G (c2 G node) = 1) ∧ sp G node = sp G (c1 G node) + sp G (c2 G node) := by
  obtain ⟨hh, n0, n1, i0, ij, j8, d⟩ := hi
  have hch := wf_ch W n0 n1 hk
  rcases hch.2.2 with qq | qq
  · exact absurd qq hu
  have a1 := child_in W n0 n1 hch.1 hch.2.1
  have a2 := child_in W n0 n1 (by omega) qq.2
  have s0 := (wf_sp W n0 n1).2.2.2 hk
  rw [if_neg hu] at s0
  have s1 := (wf_sp W a1.1 a1.2.1).1
  have s2 := (wf_sp W a2.1 a2.2.1).1
  have sn := (wf_sp W n0 n1).1
  clear hch a1 a2 qq hk hu hh
  unfold sLo sHi cc
  generalize sp G (c1 G node) = x1 at *
  generalize sp G (c2 G node) = x2 at *
  generalize sp G node = x0 at *
  rcases d with ⟨d0, d1, d2, d3⟩ | ⟨d0, rfl, rfl⟩ <;> rcases s1 with z | z <;> rcases s2 with z2 | z2 <;> subst z <;> subst z2 <;> subst d0
  all_goals first
    | (exfalso; omega)
    | skip
  · simp only [if_true, if_neg (show ¬ (0 : Int) = 1 by decide), if_neg (show ¬ p = -1 by omega), if_neg (show ¬ (1 : Int) = 0 by decide)]
    refine ⟨by trivial, by trivial, by omega, by omega, by omega, fun k _ _ => ⟨by omega, by omega⟩, Or.inl (by trivial), Or.inr (by trivial), by omega⟩
  · simp only [if_true, if_neg (show ¬ q = -1 by omega), if_neg (show ¬ (1 : Int) = 0 by decide)]
    refine ⟨by trivial, by trivial, by omega, by omega, by omega, fun k _ _ => ⟨by omega, by omega⟩, Or.inr (by trivial), Or.inl (by trivial), by omega⟩
  · simp only [if_true, if_neg (show ¬ (0 : Int) = 1 by decide)]
    refine ⟨by trivial, by trivial, by omega, by omega, by omega, fun k _ _ => ⟨by omega, by omega⟩, Or.inl (by trivial), Or.inl (by trivial), by omega⟩
section
variable {h : Hp} {o P sz : Int} {G : Gm} {ou : Int → Bool} {A : Ag} {V : Int → Prop} {S : SV} {D : SD}
theorem Ch_waysBelow_ok (E : Ev h o P G sz ou A V) (Q : AEq G ou A V sz S) (T : Tab h o P G sz ou A S D) {node i j p q : Int} (hi : itm G 0 node i j p q) (hj : j ≤ sz) (hk : kd G node = 0) (ho : ou (tr G node) = false)
    (hD : ∀ half' node' i' j' p' q', itm G half' node' i' j' p' q' → bef G node' i' j' p' q' node i j p q → D half' node' i' j' p' q' = true) :
    Ch_waysBelow o node i j (cc p j) (cc q j) h = some (S 0 node i j p q) := by
  have E' := E
  obtain ⟨W, R, C, L, _, U⟩ := E
  obtain ⟨k0, k1, k2, k3, k4, k5, k6, k7, k8, k9, k10, k11, k12, k13⟩ := GrO_k R.1
  have c0 := ChO_k C.1
  have nn := wf_nn W
  have n0 := hi.2.1
  have n1 := hi.2.2.1
  have rr := R.2.2.2.2.2.1 node n0 n1
  have hch := wf_ch W n0 n1 hk
  have a1 := child_in W n0 n1 hch.1 hch.2.1
  have r1 := R.2.2.2.2.2.1 (c1 G node) a1.1 a1.2.1
  have e11 : h P 11 = P + 6 := R.2.1.2.2.2.2.2.1
  have e12 : h P 12 = P + 7 := R.2.1.2.2.2.2.2.2.1
  have e15 : h P 15 = P + 10 := R.2.1.2.2.2.2.2.2.2.2.2.1
  have f1 : h (P + 6) node = c1 G node := rr.2.2.2.2.1
  have f2 : h (P + 7) node = c2 G node := rr.2.2.2.2.2.1
  have f10 : h (P + 10) (c1 G node) = sp G (c1 G node) := r1.2.2.2.2.2.2.2.2
  have ho1 : ou (tr G (c1 G node)) = false := by rw [a1.2.2]; exact ho
  obtain ⟨q1, q2, q3, q4, q5, q6, q7, q8, q9⟩ := Q _ _ _ _ _ _ hi hj
  have ci := cc_in hi
  unfold Ch_waysBelow
  rw [C.2.1, e11, e12, e15, f1, f2, f10, if_pos c0.1, if_pos k0, if_pos ⟨k6.1, n0, by rw [k6.2]; omega⟩, if_pos ⟨k7.1, n0, by rw [k7.2]; omega⟩]
  by_cases hu : c2 G node = -1
  · obtain ⟨u1, -⟩ := unary_item W hi hk hu
    rw [if_pos hu, val_item E' T u1 hj, ob_some, q7 hk rfl hu, tY_is ho1 (hD _ _ _ _ _ _ u1 (bef_unary W hi hk hu))]
  · rcases hch.2.2 with qq | qq
    · exact absurd qq hu
    have a2 := child_in W n0 n1 (by omega) qq.2
    have ho2 : ou (tr G (c2 G node)) = false := by rw [a2.2.2]; exact ho
    obtain ⟨lo_eq, hi_eq, bl1, bl2, bl3, items, s1, s2, s0⟩ := split_bnd W hi hk hu
    rw [if_neg hu, if_pos ⟨k10.1, a1.1, by rw [k10.2]; omega⟩]
    unfold Ch_waysBelow_j68 Ch_waysBelow_j81
    rw [q8 hk rfl hu]
    unfold aSplit
    obtain ⟨hh, -, -, i0, ij, j8, d⟩ := id hi
    rw [lo_eq, hi_eq]
    show _ = some (aI A _ (sLo G node i q) (sHi G node j p))
    clear lo_eq hi_eq
    generalize sLo G node i q = lo at *
    generalize sHi G node j p = hj' at *
    have spl := fun k (b0 : lo ≤ k) (b1 : k ≤ hj') => split_items W hi hk hu (m := k) (by omega) (by omega) (items k b0 b1).1 (items k b0 b1).2
    have vv : ∀ k, lo ≤ k → k ≤ hj' → V (S 1 (c1 G node) i k (gp (sp G (c1 G node)) p) (gp (sp G (c1 G node)) q)) ∧ V (S 1 (c2 G node) k j (gp (sp G (c2 G node)) p) (gp (sp G (c2 G node)) q)) := by
      intro k b0 b1
      obtain ⟨g1, g2, g3⟩ := spl k b0 b1
      exact ⟨(Q _ _ _ _ _ _ g1 (by omega)).1, (Q _ _ _ _ _ _ g2 hj).1⟩
    rw [acc_lp L (f := fun k => aB A (S 1 (c1 G node) i k (gp (sp G (c1 G node)) p) (gp (sp G (c1 G node)) q)) (S 1 (c2 G node) k j (gp (sp G (c2 G node)) p) (gp (sp G (c2 G node)) q))) (lo := lo) (hi := hj') (acc0 := 0) (by omega) (by omega) (ag_0 L) (fun k b0 b1 => ag_B L (vv k b0 b1).1 (vv k b0 b1).2) (by
      intro acc k b0 b1 va
      obtain ⟨g1, g2, g3⟩ := spl k b0 b1
      have y1 := val_item E' T g1 (by omega)
      have y2 := val_item E' T g2 hj
      refine below_step E' (x := tY G ou S D 1 (c1 G node) i k (gp (sp G (c1 G node)) p) (gp (sp G (c1 G node)) q)) (y := tY G ou S D 1 (c2 G node) k j (gp (sp G (c2 G node)) p) (gp (sp G (c2 G node)) q)) b1 (by omega) (by omega) va (vv k b0 b1).1 (vv k b0 b1).2 tY_or tY_or ?_ ?_ ?_
      · intro z1 z2
        have w1 : nd G (c1 G node) ≤ cov i k (gp (sp G (c1 G node)) p) (gp (sp G (c1 G node)) q) := by
          apply Int.not_lt.mp
          intro hlt
          exact z1 ((Q _ _ _ _ _ _ g1 (by omega)).2.1 hlt)
        have w2 : nd G (c2 G node) ≤ cov k j (gp (sp G (c2 G node)) p) (gp (sp G (c2 G node)) q) := by
          apply Int.not_lt.mp
          intro hlt
          exact z2 ((Q _ _ _ _ _ _ g2 hj).2.1 hlt)
        obtain ⟨b1', b2'⟩ := bef_split W hi hk hu g1 g2 g3 w1 w2
        exact ⟨tY_is ho1 (hD _ _ _ _ _ _ g1 b1'), tY_is ho2 (hD _ _ _ _ _ _ g2 b2')⟩
      · rcases s1 with z | z
        · rw [if_pos z, ← y1, z, gp_0, gp_0, cc_no]
        · rw [if_neg (by omega), ← y1, z, gp_1, gp_1]
          rcases d with ⟨d0, d1, d2, d3⟩ | ⟨d0, -⟩
          · rw [cc_yes j (by omega), cc_yes j (by omega), cc_yes k (by omega), cc_yes k (by omega)]
          · omega
      · rcases s1 with z | z
        · rw [if_pos z, ← y2]
          rcases s2 with z2 | z2
          · rcases d with ⟨d0, d1, d2, d3⟩ | ⟨d0, rfl, rfl⟩
            · omega
            · rw [z2, gp_0]
          · rw [z2, gp_1, gp_1]
        · rw [if_neg (by omega), ← y2, show sp G (c2 G node) = 0 by omega, gp_0, gp_0, cc_no]) (by
      intro acc va
      unfold Ch_waysBelow_L83
      rw [if_pos (by omega)]), ob_some]
    congr 1
    exact ag_0E L (aI_V L (fun k b0 b1 => ag_B L (vv k b0 b1).1 (vv k b0 b1).2))
end
