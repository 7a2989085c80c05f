/-! values that stand for numbers, and are bounded by steps -/
theorem homg {G : Gm} {ou ou' : Int → Bool} {row : Int → Int} {A : Ag} {V : Int → Prop} {sz : Int} {S : SV} {R : Int → Int → Nat → Prop} (I : GIn G) (L : AgL A V) (Q : AEq G ou A V sz S) (hou : ∀ t, 0 ≤ t → t < nT G → ou t = true → ou' t = true)
    (rM : ∀ g g' x n, R g x n → g ≤ g' → R g' x n)
    (r0 : R 0 0 0) (r1 : R 0 (a1 A) 1) (rL : ∀ i l, 0 ≤ i → i < sz → 0 ≤ l → l < 26 → R 0 (aL A i l) (if row i = l then 1 else 0))
    (rE : ∀ g x y m n, 0 ≤ g → g ≤ 50 → V x → V y → R g x m → R g y n → R g (aE A x y) (m + n))
    (rB : ∀ g g' x y m n, 0 ≤ g → 0 ≤ g' → g + g' ≤ 50 → V x → V y → R g x m → R g' y n → R (g + g') (aB A x y) (m * n))
    (rP : ∀ g t x n, 0 ≤ g → g < 50 → 0 ≤ t → t < nT G → ou t = false → V x → R g x n → R (g + 1) (aP A t x) (if ou' t then 0 else n)) :
    ∀ (m : Nat) (half node i j p q g : Int), itm G half node i j p q → j ≤ sz → mu G half node i j p q < m → gr G node i j p q ≤ g → 0 ≤ g → g ≤ 50 → R g (S half node i j p q) (wW G ou' row half node i j p q) := by
  have W := I.1
  intro m
  induction m with
  | zero => intro half node i j p q g h hj hm; have := (mu_in W h).1; omega
  | succ m ih =>
  intro half node i j p q g h hj hm hg g0 g50
  have r0g : ∀ g, 0 ≤ g → R g 0 0 := fun g hg => rM 0 g 0 0 r0 hg
  have nt := wf_nt W
  have hV : ∀ half node i j p q, itm G half node i j p q → j ≤ sz → V (S half node i j p q) := fun _ _ _ _ _ _ a b => (Q _ _ _ _ _ _ a b).1
  have hZ : ∀ half node i j p q, itm G half node i j p q → j ≤ sz → cov i j p q < nd G node → S half node i j p q = 0 ∧ wW G ou' row half node i j p q = 0 := fun _ _ _ _ _ _ a b c => ⟨(Q _ _ _ _ _ _ a b).2.1 c, wW_z W a c⟩
  by_cases hc : cov i j p q < nd G node
  · obtain ⟨z1, z2⟩ := hZ _ _ _ _ _ _ h hj hc
    rw [z1, z2]; exact r0g g g0
  have kd0 := wf_kd W h.2.1 h.2.2.1
  have i0 := h.2.2.2.1
  have ij := h.2.2.2.2.1
  have j8 := h.2.2.2.2.2.1
  have goT : ∀ (e t l s x : Int) (n : Nat), 0 ≤ e → e < 50 → 0 ≤ t → t < nT G → (goB G ou t l s = true → V x ∧ R e x n) → V (if goB G ou t l s then aP A t x else 0) ∧ R (e + 1) (if goB G ou t l s then aP A t x else 0) (if goB G ou' t l s then n else 0) := by
    intro e t l s x n e0 e1 t0 t1 hx
    cases hg : goB G ou t l s
    · have : goB G ou' t l s = false := by
        cases hg' : goB G ou' t l s
        · rfl
        · obtain ⟨g1, g2, g3⟩ := goB_spec hg'
          cases ho : ou t
          · rw [goB_mk g1 g2 ho] at hg; exact absurd hg (by decide)
          · rw [hou t t0 t1 ho] at g3; exact absurd g3 (by decide)
      rw [this]
      exact ⟨ag_0 L, r0g _ (by omega)⟩
    · obtain ⟨v, r⟩ := hx hg
      obtain ⟨g1, g2, g3⟩ := goB_spec hg
      have := rP e t x n e0 e1 t0 t1 g3 v r
      refine ⟨ag_P L t0 (by omega) v, ?_⟩
      cases ho : ou' t
      · rw [ho] at this
        rw [goB_mk g1 g2 ho]
        exact this
      · rw [ho] at this
        have e : goB G ou' t l s = false := by
          cases hg' : goB G ou' t l s
          · rfl
          · rw [(goB_spec hg').2.2] at ho; exact absurd ho (by decide)
        rw [e]
        exact this
  have hsum : ∀ (g : Int) {f : Int → Int} {k : Int → Nat} {lo hi : Int}, 0 ≤ g → g ≤ 50 → (∀ x, lo ≤ x → x ≤ hi → V (f x) ∧ R g (f x) (k x)) → R g (aI A f lo hi) (sI k lo hi) := fun g f k lo hi a b c => hom_sum (R := R g) L (r0g g a) (fun x y m n => rE g x y m n a b) c
  by_cases hk : kd G node = 0
  · by_cases hh : half = 1
    · subst hh
      rw [(Q _ _ _ _ _ _ h hj).2.2.2.2.2.2.2.2 hk rfl, wAbove_eq W h hk]
      have hh := half_item h
      have e0 := ih _ _ _ _ _ _ g hh.1 hj (by omega) hg g0 g50
      have v0 := hV _ _ _ _ _ _ hh.1 hj
      have gV : ∀ a b, i ≤ a → a ≤ b → b ≤ j → V (gSum G ou A S dT (lb G node) i j a b) := by
        intro a b a0 ab bj
        unfold gSum
        apply aI_V L
        intro t t0 t1
        rw [Bool.and_true]
        split
        · rename_i hg
          have r := root_in W t0 (show t < nT G by omega)
          exact ag_P L t0 (by omega) (hV _ _ _ _ _ _ ⟨Or.inr rfl, r.1, r.2.1, i0, by omega, j8, Or.inl ⟨(goB_spec hg).1, a0, ab, bj⟩⟩ hj)
        · exact ag_0 L
      apply rE g _ _ _ _ g0 g50
      · split
        · exact ag_0 L
        · exact v0
      · split
        · exact ag_0 L
        · unfold aRound
          apply aI_V L
          intro a a0 a1
          apply aI_V L
          intro b b0 b1
          obtain ⟨x1, x2, x3, x4, x5⟩ := rnd_itm h a0 a1 b0 b1
          exact ag_B L (gV a b x3 x4 x5) (hV _ _ _ _ _ _ x1 (by omega))
      · split
        · exact r0g g g0
        · exact e0
      · split
        · exact r0g g g0
        · unfold aRound
          have step : ∀ a, i ≤ a → a ≤ (if p = -1 then j else p) → ∀ b, (if p = -1 then a else q) ≤ b → b ≤ j → V (aB A (gSum G ou A S dT (lb G node) i j a b) (S 0 node a b p q)) ∧ R g (aB A (gSum G ou A S dT (lb G node) i j a b) (S 0 node a b p q)) (sI (fun t => if goB G ou' t (lb G node) 1 then wW G ou' row 1 (ft G t) i j a b else 0) 0 (nT G - 1) * wW G ou' row 0 node a b p q) := by
            intro a a0 a1 b b0 b1
            obtain ⟨x1, x2, x3, x4, x5⟩ := rnd_itm h a0 a1 b0 b1
            have vi := hV _ _ _ _ _ _ x1 (show b ≤ sz by omega)
            refine ⟨ag_B L (gV a b x3 x4 x5) vi, ?_⟩
            by_cases hn : cov a b p q < nd G node
            · obtain ⟨y1, y2⟩ := hZ _ _ _ _ _ _ x1 (by omega) hn
              rw [y1, y2, Nat.mul_zero, ag_B0 L (gV a b x3 x4 x5)]
              exact r0g g g0
            · have gi := (gr_nn I x1 (by omega)).1
              by_cases hany : ∃ t, 0 ≤ t ∧ t < nT G ∧ goB G ou t (lb G node) 1 = true ∧ ¬ cov i j a b < nd G (ft G t)
              · obtain ⟨tt, tt0, tt1, ttg, ttc⟩ := hany
                obtain ⟨f1, f2, f3, -⟩ := around_items W h tt0 tt1 (goB_spec ttg).1 a0 a1 b0 b1
                have gd : gr G node i j p q - gr G node a b p q = 5 * cov i j a b := by unfold gr; omega
                have gt0 := (gr_nn I f2 (by omega)).1
                have gt1 := gr_round I (node := node) (i := i) (j := j) (p := p) (q := q) tt0 tt1 (goB_spec ttg).1 f3
                have : R (5 * cov i j a b + gr G node a b p q) (aB A (gSum G ou A S dT (lb G node) i j a b) (S 0 node a b p q)) (sI (fun t => if goB G ou' t (lb G node) 1 then wW G ou' row 1 (ft G t) i j a b else 0) 0 (nT G - 1) * wW G ou' row 0 node a b p q) := by
                  apply rB _ _ _ _ _ _ (by omega) gi (by omega) (gV a b x3 x4 x5) vi
                  · unfold gSum
                    apply hsum _ (by omega) (by omega)
                    intro t t0 t1
                    rw [Bool.and_true]
                    have := goT (5 * cov i j a b - 1) t (lb G node) 1 (S 1 (ft G t) i j a b) (wW G ou' row 1 (ft G t) i j a b) (by omega) (by omega) t0 (by omega) (fun hg => by
                      obtain ⟨f1, f2, f3, -⟩ := around_items W h t0 (by omega) (goB_spec hg).1 a0 a1 b0 b1
                      refine ⟨hV _ _ _ _ _ _ f2 hj, ?_⟩
                      by_cases hn2 : cov i j a b < nd G (ft G t)
                      · obtain ⟨y1, y2⟩ := hZ _ _ _ _ _ _ f2 hj hn2
                        rw [y1, y2]; exact r0g _ (by omega)
                      · have mm := (around_mu W h t0 (by omega) (goB_spec hg).1 f1 f2 f3 (by omega) (by omega)).2
                        have gq := gr_round I (node := node) (i := i) (j := j) (p := p) (q := q) t0 (show t < nT G by omega) (goB_spec hg).1 f3
                        exact ih _ _ _ _ _ _ _ f2 hj (by omega) (by omega) (by omega) (by omega))
                    rw [show 5 * cov i j a b - 1 + 1 = 5 * cov i j a b by omega] at this
                    exact this
                  · exact ih _ _ _ _ _ _ _ x1 (by omega) (by unfold mu at hm ⊢; omega) (Int.le_refl _) gi (by omega)
                exact rM _ _ _ _ this (by omega)
              · -- no guest fits: both are nothing
                have z1 : gSum G ou A S dT (lb G node) i j a b = 0 := by
                  unfold gSum
                  apply aI_zero L
                  intro t t0 t1
                  rw [Bool.and_true]
                  split
                  · rename_i hg
                    obtain ⟨f1, f2, f3, -⟩ := around_items W h t0 (show t < nT G by omega) (goB_spec hg).1 a0 a1 b0 b1
                    have hn2 : cov i j a b < nd G (ft G t) := Classical.byContradiction (fun z => hany ⟨t, t0, by omega, hg, z⟩)
                    rw [(hZ _ _ _ _ _ _ f2 hj hn2).1, ag_P0 L t0 (by omega)]
                  · rfl
                have z2 : sI (fun t => if goB G ou' t (lb G node) 1 then wW G ou' row 1 (ft G t) i j a b else 0) 0 (nT G - 1) = 0 := by
                  apply sI_0
                  intro t t0 t1
                  split
                  · rename_i hg'
                    obtain ⟨g1, g2, g3⟩ := goB_spec hg'
                    have ho : ou t = false := by
                      cases ho : ou t
                      · rfl
                      · rw [hou t t0 (by omega) ho] at g3; exact absurd g3 (by decide)
                    obtain ⟨f1, f2, f3, -⟩ := around_items W h t0 (show t < nT G by omega) g1 a0 a1 b0 b1
                    have hn2 : cov i j a b < nd G (ft G t) := Classical.byContradiction (fun z => hany ⟨t, t0, by omega, goB_mk g1 g2 ho, z⟩)
                    exact wW_z W f2 hn2
                  · rfl
                rw [z1, z2, ag_0B L vi, Nat.zero_mul]
                exact r0g g g0
          apply hsum g g0 g50
          intro a a0 a1
          exact ⟨aI_V L (fun b b0 b1 => (step a a0 a1 b b0 b1).1), hsum g g0 g50 (fun b b0 b1 => step a a0 a1 b b0 b1)⟩
    · have hh0 : half = 0 := by have := h.1; omega
      subst hh0
      by_cases h2 : c2 G node = -1
      · obtain ⟨f1, f2⟩ := unary_item W h hk h2
        rw [(Q _ _ _ _ _ _ h hj).2.2.2.2.2.2.1 hk rfl h2, wLeaf_eq W h (Or.inr ⟨rfl, h2⟩)]
        unfold wBelow
        rw [if_neg (by omega), if_neg (by omega), if_neg (by omega), if_neg (by omega), if_pos h2]
        exact ih _ _ _ _ _ _ g f1 hj (by omega) (by rw [gr_unary I h.2.1 h.2.2.1 hk h2]; exact hg) g0 g50
      · rw [(Q _ _ _ _ _ _ h hj).2.2.2.2.2.2.2.1 hk rfl h2, wSplit_eq W h hk h2]
        unfold aSplit
        apply hsum g g0 g50
        intro k k0 k1
        obtain ⟨f1, f2, f3⟩ := spl_itm W h hk h2 k0 k1
        obtain ⟨g1, g2, -⟩ := spl_rng W h hk h2 k0 k1
        have v1 := hV _ _ _ _ _ _ f1 (by omega)
        have v2 := hV _ _ _ _ _ _ f2 hj
        refine ⟨ag_B L v1 v2, ?_⟩
        by_cases hn1 : cov i k (gp (sp G (c1 G node)) p) (gp (sp G (c1 G node)) q) < nd G (c1 G node)
        · obtain ⟨y1, y2⟩ := hZ _ _ _ _ _ _ f1 (by omega) hn1
          rw [y1, y2, ag_0B L v2, Nat.zero_mul]; exact r0g g g0
        · by_cases hn2 : cov k j (gp (sp G (c2 G node)) p) (gp (sp G (c2 G node)) q) < nd G (c2 G node)
          · obtain ⟨y1, y2⟩ := hZ _ _ _ _ _ _ f2 hj hn2
            rw [y1, y2, ag_B0 L v1, Nat.mul_zero]; exact r0g g g0
          · obtain ⟨u1, u2⟩ := split_mu W h hk h2 f1 f2 f3 (by omega) (by omega)
            have ga := (gr_nn I f1 (by omega)).1
            have gb := (gr_nn I f2 (by omega)).1
            have gs := gr_split I h.2.1 h.2.2.1 hk h2 f3
            have := rB _ _ _ _ _ _ ga gb (by omega) v1 v2 (ih _ _ _ _ _ _ _ f1 (by omega) (by omega) (Int.le_refl _) ga (by omega)) (ih _ _ _ _ _ _ _ f2 hj (by omega) (Int.le_refl _) gb (by omega))
            exact rM _ _ _ _ this (by omega)
  · rw [wLeaf_eq W h (Or.inl hk)]
    unfold wBelow
    have ll := (wf_lb W h.2.1 h.2.2.1).1
    by_cases k1 : kd G node = 1
    · rw [(Q _ _ _ _ _ _ h hj).2.2.1 k1, if_pos k1]
      by_cases hj1 : j = i + 1
      · have := rM 0 g _ _ (rL i (lb G node) i0 (by omega) (ll (by omega)).1 (ll (by omega)).2) g0
        rw [if_pos hj1]
        by_cases hr : row i = lb G node
        · rw [if_pos hr] at this
          rw [if_pos ⟨hj1, hr⟩]; exact this
        · rw [if_neg hr] at this
          rw [if_neg (fun z => hr z.2)]; exact this
      · rw [if_neg hj1, if_neg (fun z => hj1 z.1)]; exact r0g g g0
    rw [if_neg k1]
    by_cases k2 : kd G node = 2
    · rw [(Q _ _ _ _ _ _ h hj).2.2.2.1 k2, if_pos k2]
      split
      · exact rM 0 g _ _ r1 g0
      · exact r0g g g0
    rw [if_neg k2]
    by_cases k3 : kd G node = 3
    · rw [(Q _ _ _ _ _ _ h hj).2.2.2.2.1 k3, if_pos k3]
      split
      · exact rM 0 g _ _ r1 g0
      · exact r0g g g0
    have k4 : kd G node = 4 := by omega
    rw [if_neg k3, if_pos k4, (Q _ _ _ _ _ _ h hj).2.2.2.2.2.1 k4]
    have cv := (cov_in h).1
    have g1 : 1 ≤ g := by
      have q' := pl_eq W h.2.1 h.2.2.1
      rw [if_pos k4] at q'
      unfold gr at hg
      omega
    unfold aHosts wHosts
    apply hsum g g0 g50
    intro t t0 t1
    have := goT (g - 1) t (lb G node) 0 (S 1 (ft G t) i j (-1) (-1)) (wW G ou' row 1 (ft G t) i j (-1) (-1)) (by omega) (by omega) t0 (by omega) (fun hg' => by
      obtain ⟨f1, f2, f3, f4⟩ := place_item W h k4 t0 (by omega) (goB_spec hg').1
      refine ⟨hV _ _ _ _ _ _ f1 hj, ?_⟩
      have gq := gr_place I (i := i) (j := j) h.2.1 h.2.2.1 k4 t0 (show t < nT G by omega) f3 f4
      exact ih _ _ _ _ _ _ _ f1 hj (by omega) (by omega) (by omega) (by omega))
    rw [show g - 1 + 1 = g by omega] at this
    exact this
