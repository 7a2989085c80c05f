/-! sums of numbers, turned round -/
theorem sN_add {f g : Int → Nat} {lo : Int} : ∀ n, sN (fun x => f x + g x) lo n = sN f lo n + sN g lo n
  | 0 => rfl
  | n + 1 => by
    show sN (fun x => f x + g x) lo n + (f (lo + n) + g (lo + n)) = sN f lo n + f (lo + n) + (sN g lo n + g (lo + n))
    rw [sN_add n]; omega
theorem sN_zero {lo : Int} : ∀ n, sN (fun _ => 0) lo n = 0
  | 0 => rfl
  | n + 1 => by show sN (fun _ => 0) lo n + 0 = 0; rw [sN_zero n]
theorem sN_mul {f : Int → Nat} {lo : Int} {c : Nat} : ∀ n, sN (fun x => f x * c) lo n = sN f lo n * c
  | 0 => by show 0 = 0 * c; rw [Nat.zero_mul]
  | n + 1 => by show sN (fun x => f x * c) lo n + f (lo + n) * c = (sN f lo n + f (lo + n)) * c; rw [sN_mul n, Nat.add_mul]
theorem sN_swap {f : Int → Int → Nat} {a b : Int} {m : Nat} : ∀ n, sN (fun x => sN (fun y => f x y) b m) a n = sN (fun y => sN (fun x => f x y) a n) b m
  | 0 => by show 0 = sN (fun _ => 0) b m; rw [sN_zero]
  | n + 1 => by
    show sN (fun x => sN (fun y => f x y) b m) a n + sN (fun y => f (a + n) y) b m = sN (fun y => sN (fun x => f x y) a n + f (a + n) y) b m
    rw [sN_swap n, sN_add]
theorem sI_swap {f : Int → Int → Nat} {a b c d : Int} : sI (fun x => sI (fun y => f x y) c d) a b = sI (fun y => sI (fun x => f x y) a b) c d := sN_swap _
theorem sI_mul {f : Int → Nat} {a b : Int} {c : Nat} : sI (fun x => f x * c) a b = sI f a b * c := sN_mul _
theorem sI_0 {f : Int → Nat} {a b : Int} (h : ∀ x, a ≤ x → x ≤ b → f x = 0) : sI f a b = 0 := by
  rw [sI_congr h]; exact sN_zero _
theorem sI_app {f : Int → Nat} {a b c : Int} (h1 : a ≤ b + 1) (h2 : b ≤ c) : sI f a c = sI f a b + sI f (b + 1) c := by
  obtain ⟨n, rfl⟩ : ∃ n : Nat, c = b + n := ⟨(c - b).toNat, by omega⟩
  induction n with
  | zero => rw [sI_none (lo := b + 1) (by omega), show b + ((0 : Nat) : Int) = b by omega]; omega
  | succ n ih =>
    have := ih (by omega)
    rw [sI_succ (lo := a) (by omega), sI_succ (lo := b + 1) (by omega), show b + ((n + 1 : Nat) : Int) - 1 = b + n by omega, this]
    omega
theorem sI_sub {f : Int → Nat} {a b c d : Int} (h1 : a ≤ c) (h2 : d ≤ b) (h3 : c ≤ d + 1) (hz : ∀ x, a ≤ x → x ≤ b → (x < c ∨ d < x) → f x = 0) : sI f a b = sI f c d := by
  by_cases hab : b < a
  · rw [sI_none hab, sI_none (by omega)]
  · have e1 : sI f a b = sI f a (c - 1) + sI f c b := by
      have := sI_app (f := f) (a := a) (b := c - 1) (c := b) (by omega) (by omega)
      rwa [show c - 1 + 1 = c by omega] at this
    have e2 : sI f c b = sI f c d + sI f (d + 1) b := sI_app h3 h2
    rw [e1, e2, sI_0 (fun x x0 x1 => hz x x0 (by omega) (Or.inl (by omega))), sI_0 (a := d + 1) (fun x x0 x1 => hz x (by omega) x1 (Or.inr (by omega)))]
    omega
section
variable {G : Gm} {ou : Int → Bool} {row : Int → Int}
theorem wW_z (W : WF G) {half node i j p q : Int} (h : itm G half node i j p q) (hc : cov i j p q < nd G node) : wW G ou row half node i j p q = 0 := by
  rw [wW_eq W h]; unfold wStep; rw [if_pos hc]
/-- above, in the order of the class -/
theorem wAbove_eq (W : WF G) {node i j p q : Int} (h : itm G 1 node i j p q) (hk : kd G node = 0) : wW G ou row 1 node i j p q = (if mk G node = 2 then 0 else wW G ou row 0 node i j p q) + (if mk G node = 1 then 0 else sI (fun a => sI (fun b => sI (fun t => if goB G ou t (lb G node) 1 then wW G ou row 1 (ft G t) i j a b else 0) 0 (nT G - 1) * wW G ou row 0 node a b p q) (if p = -1 then a else q) j) i (if p = -1 then j else p)) := by
  have nt := wf_nt W
  by_cases hc : cov i j p q < nd G node
  · rw [wW_z W h hc, wW_z W (half_item h).1 hc, ite_self]
    split
    · rfl
    · rw [sI_0]
      intro a a0 a1
      apply sI_0
      intro b b0 b1
      obtain ⟨r1, r2, r3, r4, r5⟩ := rnd_itm h a0 a1 b0 b1
      rw [wW_z W r1 (by omega), Nat.mul_zero]
  rw [wW_eq W h]
  unfold wStep
  rw [if_neg hc, if_pos ⟨rfl, hk⟩]
  unfold wAbove
  congr 1
  split
  · rfl
  have e1 : ∀ t, 0 ≤ t → t ≤ nT G - 1 → (if goB G ou t (lb G node) 1 then sI (fun a => sI (fun b => wAround G (wW G ou row) node t a b i j p q) (if p = -1 then a else q) j) i (if p = -1 then j else p) else 0) = sI (fun a => sI (fun b => (if goB G ou t (lb G node) 1 then wW G ou row 1 (ft G t) i j a b else 0) * wW G ou row 0 node a b p q) (if p = -1 then a else q) j) i (if p = -1 then j else p) := by
    intro t t0 t1
    split
    · rename_i hg
      apply sI_congr
      intro a a0 a1
      apply sI_congr
      intro b b0 b1
      obtain ⟨f1, f2, f3, -⟩ := around_items W h t0 (by omega) (goB_spec hg).1 a0 a1 b0 b1
      unfold wAround
      split
      · rw [Nat.mul_comm]
      · rename_i hn
        by_cases h1 : nd G (ft G t) ≤ cov i j a b
        · rw [wW_z W f1 (by omega), Nat.mul_zero]
        · rw [wW_z W f2 (by omega), Nat.zero_mul]
    · symm
      apply sI_0
      intro a _ _
      apply sI_0
      intro b _ _
      rw [Nat.zero_mul]
  rw [sI_congr e1, sI_swap]
  apply sI_congr
  intro a a0 a1
  rw [sI_swap]
  apply sI_congr
  intro b b0 b1
  exact sI_mul
theorem wSplit_eq (W : WF G) {node i j p q : Int} (h : itm G 0 node i j p q) (hk : kd G node = 0) (h2 : c2 G node ≠ -1) : wW G ou row 0 node i j p q = sI (fun k => wW G ou row 1 (c1 G node) i k (gp (sp G (c1 G node)) p) (gp (sp G (c1 G node)) q) * wW G ou row 1 (c2 G node) k j (gp (sp G (c2 G node)) p) (gp (sp G (c2 G node)) q)) (if sp G (c1 G node) = 1 then q else i) (if sp G (c1 G node) = 1 then j else if sp G node = 1 then p else j) := by
  have hnd := (wf_nd W h.2.1 h.2.2.1).2.2.2.1 hk
  rw [if_neg h2] at hnd
  by_cases hc : cov i j p q < nd G node
  · rw [wW_z W h hc, sI_0]
    intro k k0 k1
    obtain ⟨f1, f2, f3⟩ := spl_itm W h hk h2 k0 k1
    by_cases hn1 : cov i k (gp (sp G (c1 G node)) p) (gp (sp G (c1 G node)) q) < nd G (c1 G node)
    · rw [wW_z W f1 hn1, Nat.zero_mul]
    · rw [wW_z W f2 (by omega), Nat.mul_zero]
  rw [wW_eq W h]
  unfold wStep
  rw [if_neg hc, if_neg (by omega)]
  unfold wBelow
  rw [if_neg (by omega), if_neg (by omega), if_neg (by omega), if_neg (by omega), if_neg h2]
  obtain ⟨hh, n0, n1, i0, ij, j8, d⟩ := id h
  have hch := wf_ch W n0 n1 hk
  have q2 : c1 G node < c2 G node ∧ c2 G node < ft G (tr G node + 1) := by
    rcases hch.2.2 with q2 | q2
    · exact absurd q2 h2
    · exact q2
  have a1 := child_in W n0 n1 hch.1 hch.2.1
  have a2 := child_in W n0 n1 (by omega) q2.2
  have s0 := (wf_sp W n0 n1).2.2.2 hk
  rw [if_neg h2] at s0
  have s1 := (wf_sp W a1.1 a1.2.1).1
  have s2 := (wf_sp W a2.1 a2.2.1).1
  have sn := (wf_sp W n0 n1).1
  have e1 : sI (fun m => wSplit G (wW G ou row) node i m j p q) i j = sI (fun m => wSplit G (wW G ou row) node i m j p q) (if sp G (c1 G node) = 1 then q else i) (if sp G (c1 G node) = 1 then j else if sp G node = 1 then p else j) := by
    by_cases z1 : sp G (c1 G node) = 1
    · rw [if_pos z1, if_pos z1]
      apply sI_sub (by omega) (Int.le_refl _) (by omega)
      intro x x0 x1 hx
      unfold wSplit
      rw [if_neg]
      rintro ⟨y, -⟩
      exact y ⟨z1, by omega⟩
    · rw [if_neg z1, if_neg z1]
      by_cases z2 : sp G node = 1
      · rw [if_pos z2]
        apply sI_sub (Int.le_refl _) (by omega) (by omega)
        intro x x0 x1 hx
        unfold wSplit
        rw [if_neg]
        rintro ⟨-, y, -⟩
        exact y ⟨by omega, by omega⟩
      · rw [if_neg z2]
  rw [e1]
  apply sI_congr
  intro k k0 k1
  obtain ⟨f1, f2, f3⟩ := spl_itm W h hk h2 k0 k1
  have g := spl_rng W h hk h2 k0 k1
  unfold wSplit
  split
  · rfl
  · rename_i hn
    by_cases hn1 : cov i k (gp (sp G (c1 G node)) p) (gp (sp G (c1 G node)) q) < nd G (c1 G node)
    · rw [wW_z W f1 hn1, Nat.zero_mul]
    · by_cases hn2 : cov k j (gp (sp G (c2 G node)) p) (gp (sp G (c2 G node)) q) < nd G (c2 G node)
      · rw [wW_z W f2 hn2, Nat.mul_zero]
      · exact absurd ⟨g.2.2.1, g.2.2.2, by omega, by omega⟩ hn
theorem wLeaf_eq (W : WF G) {half node i j p q : Int} (h : itm G half node i j p q) (hk : kd G node ≠ 0 ∨ (half = 0 ∧ c2 G node = -1)) : wW G ou row half node i j p q = wBelow G ou row (wW G ou row) node i j p q := by
  have ndw := wf_nd W h.2.1 h.2.2.1
  have spw := wf_sp W h.2.1 h.2.2.1
  have kd0 := wf_kd W h.2.1 h.2.2.1
  have cv := cov_in h
  by_cases hc : cov i j p q < nd G node
  · rw [wW_z W h hc]
    unfold wBelow
    by_cases k0 : kd G node = 0
    · have hu : c2 G node = -1 := by omega
      have := ndw.2.2.2.1 k0
      rw [if_pos hu] at this
      rw [if_neg (by omega), if_neg (by omega), if_neg (by omega), if_neg (by omega), if_pos hu, wW_z W (unary_item W h k0 hu).1 (by omega)]
    · by_cases k1 : kd G node = 1
      · have := ndw.2.1 k1
        have := (cov_j h).2 (spw.2.2.1 (by omega) (by omega))
        rw [if_pos k1, if_neg (by omega)]
      · have := ndw.2.2.1 (by omega)
        omega
  · rw [wW_eq W h]
    unfold wStep
    rw [if_neg hc, if_neg (by omega)]
end
/-! values that stand for numbers -/
theorem hom_sum {A : Ag} {V : Int → Prop} {R : Int → Nat → Prop} (L : AgL A V) (r0 : R 0 0) (rE : ∀ x y m n, V x → V y → R x m → R y n → R (aE A x y) (m + n)) {f : Int → Int} {g : Int → Nat} {lo hi : Int} (hf : ∀ x, lo ≤ x → x ≤ hi → V (f x) ∧ R (f x) (g x)) : R (aI A f lo hi) (sI g lo hi) := by
  have key : ∀ n : Nat, (∀ k : Nat, k < n → V (f (lo + k)) ∧ R (f (lo + k)) (g (lo + k))) → R (aN A f lo n) (sN g lo n) := by
    intro n
    induction n with
    | zero => intro _; exact r0
    | succ n ih =>
      intro hk
      exact rE _ _ _ _ (aN_V L n (fun k h => (hk k (by omega)).1)) (hk n (by omega)).1 (ih (fun k h => hk k (by omega))) (hk n (by omega)).2
  exact key _ (fun k hk => hf _ (by omega) (by omega))
theorem hom {G : Gm} {ou ou' : Int → Bool} {row : Int → Int} {A : Ag} {V : Int → Prop} {sz : Int} {S : SV} {R : Int → Nat → Prop} (W : WF G) (L : AgL A V) (Q : AEq G ou A V sz S) (hou : ∀ t, 0 ≤ t → t < nT G → ou t = true → ou' t = true)
    (r0 : R 0 0) (r1 : R (a1 A) 1) (rL : ∀ i l, 0 ≤ i → i < sz → 0 ≤ l → l < 26 → R (aL A i l) (if row i = l then 1 else 0))
    (rE : ∀ x y m n, V x → V y → R x m → R y n → R (aE A x y) (m + n)) (rB : ∀ x y m n, V x → V y → R x m → R y n → R (aB A x y) (m * n))
    (rP : ∀ t x n, 0 ≤ t → t < nT G → ou t = false → V x → R x n → R (aP A t x) (if ou' t then 0 else n)) :
    ∀ (m : Nat) (half node i j p q : Int), itm G half node i j p q → j ≤ sz → mu G half node i j p q < m → R (S half node i j p q) (wW G ou' row half node i j p q) := by
  intro m
  induction m with
  | zero => intro half node i j p q h hj hm; have := (mu_in W h).1; omega
  | succ m ih =>
  intro half node i j p q h hj hm
  have nt := wf_nt W
  have hV : ∀ half node i j p q, itm G half node i j p q → j ≤ sz → V (S half node i j p q) := fun _ _ _ _ _ _ a b => (Q _ _ _ _ _ _ a b).1
  have hZ : ∀ half node i j p q, itm G half node i j p q → j ≤ sz → cov i j p q < nd G node → S half node i j p q = 0 ∧ wW G ou' row half node i j p q = 0 := fun _ _ _ _ _ _ a b c => ⟨(Q _ _ _ _ _ _ a b).2.1 c, wW_z W a c⟩
  by_cases hc : cov i j p q < nd G node
  · obtain ⟨z1, z2⟩ := hZ _ _ _ _ _ _ h hj hc
    rw [z1, z2]; exact r0
  have kd0 := wf_kd W h.2.1 h.2.2.1
  have i0 := h.2.2.2.1
  have ij := h.2.2.2.2.1
  have j8 := h.2.2.2.2.2.1
  have goT : ∀ t l s (x : Int) (n : Nat), 0 ≤ t → t < nT G → (goB G ou t l s = true → V x ∧ R x n) → V (if goB G ou t l s then aP A t x else 0) ∧ R (if goB G ou t l s then aP A t x else 0) (if goB G ou' t l s then n else 0) := by
    intro t l s x n t0 t1 hx
    cases hg : goB G ou t l s
    · have : goB G ou' t l s = false := by
        cases hg' : goB G ou' t l s
        · rfl
        · obtain ⟨g1, g2, g3⟩ := goB_spec hg'
          cases ho : ou t
          · rw [goB_mk g1 g2 ho] at hg; exact absurd hg (by decide)
          · rw [hou t t0 t1 ho] at g3; exact absurd g3 (by decide)
      rw [this]
      exact ⟨ag_0 L, r0⟩
    · obtain ⟨v, r⟩ := hx hg
      obtain ⟨g1, g2, g3⟩ := goB_spec hg
      have := rP t x n t0 t1 g3 v r
      refine ⟨ag_P L t0 (by omega) v, ?_⟩
      cases ho : ou' t
      · rw [ho] at this
        rw [goB_mk g1 g2 ho]
        exact this
      · rw [ho] at this
        have e : goB G ou' t l s = false := by
          cases hg' : goB G ou' t l s
          · rfl
          · rw [(goB_spec hg').2.2] at ho; exact absurd ho (by decide)
        rw [e]
        exact this
  by_cases hk : kd G node = 0
  · by_cases hh : half = 1
    · subst hh
      rw [(Q _ _ _ _ _ _ h hj).2.2.2.2.2.2.2.2 hk rfl, wAbove_eq W h hk]
      have hh := half_item h
      have e0 := ih _ _ _ _ _ _ hh.1 hj (by omega)
      have v0 := hV _ _ _ _ _ _ hh.1 hj
      have gV : ∀ a b, i ≤ a → a ≤ b → b ≤ j → V (gSum G ou A S dT (lb G node) i j a b) := by
        intro a b a0 ab bj
        unfold gSum
        apply aI_V L
        intro t t0 t1
        rw [Bool.and_true]
        split
        · rename_i hg
          have r := root_in W t0 (show t < nT G by omega)
          exact ag_P L t0 (by omega) (hV _ _ _ _ _ _ ⟨Or.inr rfl, r.1, r.2.1, i0, by omega, j8, Or.inl ⟨(goB_spec hg).1, a0, ab, bj⟩⟩ hj)
        · exact ag_0 L
      apply rE
      · split
        · exact ag_0 L
        · exact v0
      · split
        · exact ag_0 L
        · unfold aRound
          apply aI_V L
          intro a a0 a1
          apply aI_V L
          intro b b0 b1
          obtain ⟨x1, x2, x3, x4, x5⟩ := rnd_itm h a0 a1 b0 b1
          exact ag_B L (gV a b x3 x4 x5) (hV _ _ _ _ _ _ x1 (by omega))
      · split
        · exact r0
        · exact e0
      · split
        · exact r0
        · unfold aRound
          have step : ∀ a, i ≤ a → a ≤ (if p = -1 then j else p) → ∀ b, (if p = -1 then a else q) ≤ b → b ≤ j → V (aB A (gSum G ou A S dT (lb G node) i j a b) (S 0 node a b p q)) ∧ R (aB A (gSum G ou A S dT (lb G node) i j a b) (S 0 node a b p q)) (sI (fun t => if goB G ou' t (lb G node) 1 then wW G ou' row 1 (ft G t) i j a b else 0) 0 (nT G - 1) * wW G ou' row 0 node a b p q) := by
            intro a a0 a1 b b0 b1
            obtain ⟨x1, x2, x3, x4, x5⟩ := rnd_itm h a0 a1 b0 b1
            have vi := hV _ _ _ _ _ _ x1 (show b ≤ sz by omega)
            refine ⟨ag_B L (gV a b x3 x4 x5) vi, ?_⟩
            by_cases hn : cov a b p q < nd G node
            · obtain ⟨y1, y2⟩ := hZ _ _ _ _ _ _ x1 (by omega) hn
              rw [y1, y2, Nat.mul_zero, ag_B0 L (gV a b x3 x4 x5)]
              exact r0
            · apply rB _ _ _ _ (gV a b x3 x4 x5) vi
              · unfold gSum
                apply hom_sum L r0 rE
                intro t t0 t1
                rw [Bool.and_true]
                apply goT t _ _ _ _ t0 (by omega)
                intro hg
                obtain ⟨f1, f2, f3, -⟩ := around_items W h t0 (by omega) (goB_spec hg).1 a0 a1 b0 b1
                refine ⟨hV _ _ _ _ _ _ f2 hj, ?_⟩
                by_cases hn2 : cov i j a b < nd G (ft G t)
                · obtain ⟨y1, y2⟩ := hZ _ _ _ _ _ _ f2 hj hn2
                  rw [y1, y2]; exact r0
                · have := (around_mu W h t0 (by omega) (goB_spec hg).1 f1 f2 f3 (by omega) (by omega)).2
                  exact ih _ _ _ _ _ _ f2 hj (by omega)
              · exact ih _ _ _ _ _ _ x1 (by omega) (by unfold mu at hm ⊢; omega)
          apply hom_sum L r0 rE
          intro a a0 a1
          exact ⟨aI_V L (fun b b0 b1 => (step a a0 a1 b b0 b1).1), hom_sum L r0 rE (fun b b0 b1 => step a a0 a1 b b0 b1)⟩
    · have hh0 : half = 0 := by have := h.1; omega
      subst hh0
      by_cases h2 : c2 G node = -1
      · obtain ⟨f1, f2⟩ := unary_item W h hk h2
        rw [(Q _ _ _ _ _ _ h hj).2.2.2.2.2.2.1 hk rfl h2, wLeaf_eq W h (Or.inr ⟨rfl, h2⟩)]
        unfold wBelow
        rw [if_neg (by omega), if_neg (by omega), if_neg (by omega), if_neg (by omega), if_pos h2]
        exact ih _ _ _ _ _ _ f1 hj (by omega)
      · rw [(Q _ _ _ _ _ _ h hj).2.2.2.2.2.2.2.1 hk rfl h2, wSplit_eq W h hk h2]
        unfold aSplit
        apply hom_sum L r0 rE
        intro k k0 k1
        obtain ⟨f1, f2, f3⟩ := spl_itm W h hk h2 k0 k1
        obtain ⟨g1, g2, -⟩ := spl_rng W h hk h2 k0 k1
        have v1 := hV _ _ _ _ _ _ f1 (by omega)
        have v2 := hV _ _ _ _ _ _ f2 hj
        refine ⟨ag_B L v1 v2, ?_⟩
        by_cases hn1 : cov i k (gp (sp G (c1 G node)) p) (gp (sp G (c1 G node)) q) < nd G (c1 G node)
        · obtain ⟨y1, y2⟩ := hZ _ _ _ _ _ _ f1 (by omega) hn1
          rw [y1, y2, ag_0B L v2, Nat.zero_mul]; exact r0
        · by_cases hn2 : cov k j (gp (sp G (c2 G node)) p) (gp (sp G (c2 G node)) q) < nd G (c2 G node)
          · obtain ⟨y1, y2⟩ := hZ _ _ _ _ _ _ f2 hj hn2
            rw [y1, y2, ag_B0 L v1, Nat.mul_zero]; exact r0
          · obtain ⟨u1, u2⟩ := split_mu W h hk h2 f1 f2 f3 (by omega) (by omega)
            exact rB _ _ _ _ v1 v2 (ih _ _ _ _ _ _ f1 (by omega) (by omega)) (ih _ _ _ _ _ _ f2 hj (by omega))
  · rw [wLeaf_eq W h (Or.inl hk)]
    unfold wBelow
    have ll := (wf_lb W h.2.1 h.2.2.1).1
    by_cases k1 : kd G node = 1
    · rw [(Q _ _ _ _ _ _ h hj).2.2.1 k1, if_pos k1]
      by_cases hj1 : j = i + 1
      · have := rL i (lb G node) i0 (by omega) (ll (by omega)).1 (ll (by omega)).2
        rw [if_pos hj1]
        by_cases hr : row i = lb G node
        · rw [if_pos hr] at this
          rw [if_pos ⟨hj1, hr⟩]; exact this
        · rw [if_neg hr] at this
          rw [if_neg (fun z => hr z.2)]; exact this
      · rw [if_neg hj1, if_neg (fun z => hj1 z.1)]; exact r0
    rw [if_neg k1]
    by_cases k2 : kd G node = 2
    · rw [(Q _ _ _ _ _ _ h hj).2.2.2.1 k2, if_pos k2]
      split
      · exact r1
      · exact r0
    rw [if_neg k2]
    by_cases k3 : kd G node = 3
    · rw [(Q _ _ _ _ _ _ h hj).2.2.2.2.1 k3, if_pos k3]
      split
      · exact r1
      · exact r0
    have k4 : kd G node = 4 := by omega
    rw [if_neg k3, if_pos k4, (Q _ _ _ _ _ _ h hj).2.2.2.2.2.1 k4]
    unfold aHosts wHosts
    apply hom_sum L r0 rE
    intro t t0 t1
    apply goT t _ _ _ _ t0 (by omega)
    intro hg
    obtain ⟨f1, f2, -⟩ := place_item W h k4 t0 (by omega) (goB_spec hg).1
    exact ⟨hV _ _ _ _ _ _ f1 hj, ih _ _ _ _ _ _ f1 hj (by omega)⟩
/-- as it is used: an item, and hosts over a span -/
theorem hom_item {G : Gm} {ou' : Int → Bool} {row : Int → Int} {sz : Int} {S : SV} {R : Int → Nat → Prop} (W : WF G)
    (hm : ∀ (m : Nat) (half node i j p q : Int), itm G half node i j p q → j ≤ sz → mu G half node i j p q < m → R (S half node i j p q) (wW G ou' row half node i j p q)) {half node i j p q : Int} (h : itm G half node i j p q) (hj : j ≤ sz) : R (S half node i j p q) (wW G ou' row half node i j p q) := by
  have a := (mu_in W h).1
  exact hm (mu G half node i j p q + 1).toNat _ _ _ _ _ _ h hj (by omega)
