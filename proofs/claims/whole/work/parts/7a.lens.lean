/-! the values are the only ones; lengths -/
section
variable {G : Gm} {ou : Int → Bool} {A : Ag} {V : Int → Prop} {sz : Int} {S S' : SV}
theorem AEq_u (W : WF G) (L : AgL A V) (Q : AEq G ou A V sz S) (Q' : AEq G ou A V sz S') : ∀ (m : Nat) (half node i j p q : Int), itm G half node i j p q → j ≤ sz → mu G half node i j p q < m → S half node i j p q = S' half node i j p q := by
  intro m
  induction m with
  | zero => intro half node i j p q h hj hm; have := (mu_in W h).1; omega
  | succ m ih =>
  intro half node i j p q h hj hm
  have nt := wf_nt W
  have hV : ∀ half node i j p q, itm G half node i j p q → j ≤ sz → V (S half node i j p q) := fun _ _ _ _ _ _ a b => (Q _ _ _ _ _ _ a b).1
  have hV' : ∀ half node i j p q, itm G half node i j p q → j ≤ sz → V (S' half node i j p q) := fun _ _ _ _ _ _ a b => (Q' _ _ _ _ _ _ a b).1
  have hz : ∀ half node i j p q, itm G half node i j p q → j ≤ sz → cov i j p q < nd G node → S half node i j p q = 0 ∧ S' half node i j p q = 0 := fun _ _ _ _ _ _ a b c => ⟨(Q _ _ _ _ _ _ a b).2.1 c, (Q' _ _ _ _ _ _ a b).2.1 c⟩
  by_cases hc : cov i j p q < nd G node
  · obtain ⟨z1, z2⟩ := hz _ _ _ _ _ _ h hj hc
    rw [z1, z2]
  have kd0 := wf_kd W h.2.1 h.2.2.1
  have i0 := h.2.2.2.1
  have j8 := h.2.2.2.2.2.1
  by_cases hk : kd G node = 0
  · by_cases hh : half = 1
    · subst hh
      rw [(Q _ _ _ _ _ _ h hj).2.2.2.2.2.2.2.2 hk rfl, (Q' _ _ _ _ _ _ h hj).2.2.2.2.2.2.2.2 hk rfl]
      have hh := half_item h
      rw [ih _ _ _ _ _ _ hh.1 hj (by omega)]
      congr 1
      split
      · rfl
      unfold aRound
      apply aI_congr
      intro a a0 a1
      apply aI_congr
      intro b b0 b1
      obtain ⟨r1, r2, r3, r4, r5⟩ := rnd_itm h a0 a1 b0 b1
      have vg : ∀ T : SV, (∀ half node i j p q, itm G half node i j p q → j ≤ sz → V (T half node i j p q)) → V (gSum G ou A T dT (lb G node) i j a b) := by
        intro T hT
        unfold gSum
        apply aI_V L
        intro t t0 t1
        rw [Bool.and_true]
        split
        · rename_i hg
          have r := root_in W t0 (show t < nT G by omega)
          exact ag_P L t0 (by omega) (hT _ _ _ _ _ _ ⟨Or.inr rfl, r.1, r.2.1, i0, by omega, j8, Or.inl ⟨(goB_spec hg).1, r3, r4, r5⟩⟩ hj)
        · exact ag_0 L
      by_cases hn : cov a b p q < nd G node
      · obtain ⟨y1, y2⟩ := hz _ _ _ _ _ _ r1 (by omega) hn
        rw [y1, y2, ag_B0 L (vg S hV), ag_B0 L (vg S' hV')]
      · rw [ih _ _ _ _ _ _ r1 (by omega) (by unfold mu at hm ⊢; omega)]
        congr 1
        unfold gSum
        apply aI_congr
        intro t t0 t1
        split
        · rename_i hg
          rw [Bool.and_true] at hg
          have hs := (goB_spec hg).1
          obtain ⟨f1, f2, f3, -⟩ := around_items W h t0 (by omega) hs a0 a1 b0 b1
          by_cases hn2 : cov i j a b < nd G (ft G t)
          · obtain ⟨y1, y2⟩ := hz _ _ _ _ _ _ f2 hj hn2
            rw [y1, y2]
          · have := (around_mu W h t0 (by omega) hs f1 f2 f3 (by omega) (by omega)).2
            rw [ih _ _ _ _ _ _ f2 hj (by omega)]
        · rfl
    · have hh0 : half = 0 := by have := h.1; omega
      subst hh0
      by_cases h2 : c2 G node = -1
      · rw [(Q _ _ _ _ _ _ h hj).2.2.2.2.2.2.1 hk rfl h2, (Q' _ _ _ _ _ _ h hj).2.2.2.2.2.2.1 hk rfl h2]
        obtain ⟨f1, f2⟩ := unary_item W h hk h2
        exact ih _ _ _ _ _ _ f1 hj (by omega)
      · rw [(Q _ _ _ _ _ _ h hj).2.2.2.2.2.2.2.1 hk rfl h2, (Q' _ _ _ _ _ _ h hj).2.2.2.2.2.2.2.1 hk rfl h2]
        unfold aSplit
        apply aI_congr
        intro k k0 k1
        obtain ⟨f1, f2, f3⟩ := spl_itm W h hk h2 k0 k1
        obtain ⟨g1, g2, -⟩ := spl_rng W h hk h2 k0 k1
        by_cases hn1 : cov i k (gp (sp G (c1 G node)) p) (gp (sp G (c1 G node)) q) < nd G (c1 G node)
        · obtain ⟨y1, y2⟩ := hz _ _ _ _ _ _ f1 (by omega) hn1
          rw [y1, y2, ag_0B L (hV _ _ _ _ _ _ f2 hj), ag_0B L (hV' _ _ _ _ _ _ f2 hj)]
        · by_cases hn2 : cov k j (gp (sp G (c2 G node)) p) (gp (sp G (c2 G node)) q) < nd G (c2 G node)
          · obtain ⟨y1, y2⟩ := hz _ _ _ _ _ _ f2 hj hn2
            rw [y1, y2, ag_B0 L (hV _ _ _ _ _ _ f1 (by omega)), ag_B0 L (hV' _ _ _ _ _ _ f1 (by omega))]
          · obtain ⟨u1, u2⟩ := split_mu W h hk h2 f1 f2 f3 (by omega) (by omega)
            rw [ih _ _ _ _ _ _ f1 (by omega) (by omega), ih _ _ _ _ _ _ f2 hj (by omega)]
  · by_cases k1 : kd G node = 1
    · rw [(Q _ _ _ _ _ _ h hj).2.2.1 k1, (Q' _ _ _ _ _ _ h hj).2.2.1 k1]
    by_cases k2 : kd G node = 2
    · rw [(Q _ _ _ _ _ _ h hj).2.2.2.1 k2, (Q' _ _ _ _ _ _ h hj).2.2.2.1 k2]
    by_cases k3 : kd G node = 3
    · rw [(Q _ _ _ _ _ _ h hj).2.2.2.2.1 k3, (Q' _ _ _ _ _ _ h hj).2.2.2.2.1 k3]
    have k4 : kd G node = 4 := by omega
    rw [(Q _ _ _ _ _ _ h hj).2.2.2.2.2.1 k4, (Q' _ _ _ _ _ _ h hj).2.2.2.2.2.1 k4]
    unfold aHosts
    apply aI_congr
    intro t t0 t1
    split
    · rename_i hg
      obtain ⟨f1, f2, -⟩ := place_item W h k4 t0 (by omega) (goB_spec hg).1
      rw [ih _ _ _ _ _ _ f1 hj (by omega)]
    · rfl
end
section
variable {G : Gm} {ou : Int → Bool} {row row' : Int → Int} {n : Int} {S : SV}
theorem aI_S {f : Int → Int} {lo hi : Int} : aI (agS row') f lo hi = aI (agS row) f lo hi := by
  have : ∀ k, aN (agS row') f lo k = aN (agS row) f lo k := by
    intro k
    induction k with
    | zero => rfl
    | succ k ih =>
      show sE (aN (agS row') f lo k) (f (lo + k)) = sE (aN (agS row) f lo k) (f (lo + k))
      rw [ih]
  exact this _
/-- only the letters of the sentence matter -/
theorem AEq_row (hr : ∀ i, 0 ≤ i → i < n → row' i = row i) (Q : AEq G ou (agS row') r64 8 S) (n8 : n ≤ 8) : AEq G ou (agS row) r64 n S := by
  intro half node i j p q h hj
  have q := Q _ _ _ _ _ _ h (by omega)
  obtain ⟨q1, q2, q3, q4, q5, q6, q7, q8, q9⟩ := q
  refine ⟨q1, q2, ?_, q4, q5, ?_, q7, ?_, ?_⟩
  · intro k1
    rw [q3 k1]
    by_cases hj1 : j = i + 1
    · rw [if_pos hj1, if_pos hj1]
      show (if row' i = lb G node then (4294967296 : Int) else 0) = (if row i = lb G node then 4294967296 else 0)
      rw [hr i h.2.2.2.1 (by omega)]
    · rw [if_neg hj1, if_neg hj1]
  · intro k4
    rw [q6 k4]
    unfold aHosts
    exact aI_S
  · intro k0 hh h2
    rw [q8 k0 hh h2]
    unfold aSplit
    exact aI_S
  · intro k0 hh
    rw [q9 k0 hh]
    have e : aRound G ou (agS row') S node i j p q = aRound G ou (agS row) S node i j p q := by
      unfold aRound
      rw [aI_S (row := row)]
      apply aI_congr
      intro a _ _
      rw [aI_S (row := row)]
      apply aI_congr
      intro b _ _
      unfold gSum
      rw [aI_S (row := row)]
      rfl
    rw [e]
    rfl
end
section
variable {h : Hp} {G : Gm} {ob n : Int} {row : Int → Int}
theorem qv_sum {b : Int} (I : GIn G) {S : SV} (Q : AEq G (ouB ob) (agS row) r64 n S) (n0 : 0 ≤ n) (n8 : n ≤ 8) (hz : nT G ≠ 0) : IsB b (qv b (sumV G ob n row)) (TH G (ouB ob) S b (lb G 0) 0 n) := by
  have W := I.1
  have L := agS_law row
  have nt := wf_nt W
  have Q0 := aFix_AEq (ou := ouB ob) W L n
  have e : aHosts G (ouB ob) (agS row) (aFix G (ouB ob) (agS row)) (lb G 0) 0 n = aHosts G (ouB ob) (agS row) S (lb G 0) 0 n := by
    unfold aHosts
    apply aI_congr
    intro t t0 t1
    split
    · rename_i hg
      have hi := root_item W (i := 0) (j := n) t0 (show t < nT G by omega) (goB_spec hg).1 (by decide) n0 n8
      have a := (mu_in W hi).1
      rw [AEq_u W L Q0 Q (mu G 1 (ft G t) 0 n (-1) (-1) + 1).toNat _ _ _ _ _ _ hi (Int.le_refl _) (by omega)]
    · rfl
  unfold sumV
  rw [if_neg hz, e]
  exact chH I Q (by decide) n0 n8 (Int.le_refl _) (fun t t0 t1 _ => by have := gr_top I t0 t1 n0 n8; omega)
end
