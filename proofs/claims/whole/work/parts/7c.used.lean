/-! trees that some way has, as bits -/
def bu (u x : Int) : Prop := bit (f0 x) u = 1
def GU (u g x : Int) (T : Prop) : Prop := r64 x ∧ (x ≠ 0 → PkB g x) ∧ (bu u x ↔ T)
theorem f0_0 : f0 0 = 0 := by decide
theorem bu_0 {u : Int} (u0 : 0 ≤ u) (u1 : u < 8) : ¬ bu u 0 := by
  unfold bu; rw [f0_0, bit_0 u0 (by omega)]; decide
section
variable {u : Int}
theorem GU_m {g g' x : Int} {T : Prop} (h : GU u g x T) (hg : g ≤ g') : GU u g' x T := ⟨h.1, fun z => PkB_m (h.2.1 z) hg, h.2.2⟩
theorem GU_c {g x : Int} {T T' : Prop} (h : GU u g x T) (e : T ↔ T') : GU u g x T' := ⟨h.1, h.2.1, h.2.2.trans e⟩
theorem GU_0 (u0 : 0 ≤ u) (u1 : u < 8) {g : Int} {T : Prop} (h : ¬ T) : GU u g 0 T := ⟨r64_0, fun z => absurd rfl z, ⟨fun z => absurd z (bu_0 u0 u1), fun z => absurd z h⟩⟩
theorem GU_E (u0 : 0 ≤ u) (u1 : u < 8) {g x y : Int} {T T' : Prop} (hg : g ≤ 50) (h : GU u g x T) (h' : GU u g y T') : GU u g (sE x y) (T ∨ T') := by
  by_cases zx : x = 0
  · subst zx
    have e : sE 0 y = y := by unfold sE; rw [if_pos (Or.inl rfl), l_or_l0 h'.1]
    rw [e]
    exact GU_c h' ⟨Or.inr, fun z => z.elim (fun w => absurd (h.2.2.mpr w) (bu_0 u0 u1)) id⟩
  by_cases zy : y = 0
  · subst zy
    have e : sE x 0 = x := by unfold sE; rw [if_pos (Or.inr rfl), l_or_r0 h.1]
    rw [e]
    exact GU_c h ⟨Or.inl, fun z => z.elim id (fun w => absurd (h'.2.2.mpr w) (bu_0 u0 u1))⟩
  obtain ⟨e, e0, -⟩ := sE_fld zx zy
  have a := f0_in x
  have b := f0_in y
  refine ⟨sE_r, fun _ => PkB_E hg (h.2.1 zx) (h'.2.1 zy), ?_⟩
  unfold bu
  rw [e0, (bit_or8 a.1 a.2 b.1 b.2 u0 u1).1]
  exact or_congr h.2.2 h'.2.2
theorem GU_B (u0 : 0 ≤ u) (u1 : u < 8) {g g' x y : Int} {T T' : Prop} (g0 : 0 ≤ g) (g0' : 0 ≤ g') (hg : g + g' ≤ 50) (h : GU u g x T) (h' : GU u g' y T') : GU u (g + g') (sBt x y) (x ≠ 0 ∧ y ≠ 0 ∧ (T ∨ T')) := by
  by_cases zx : x = 0
  · have e : sBt x y = 0 := by unfold sBt; rw [if_pos (Or.inl zx)]
    rw [e]; exact GU_0 u0 u1 (fun z => z.1 zx)
  by_cases zy : y = 0
  · have e : sBt x y = 0 := by unfold sBt; rw [if_pos (Or.inr zy)]
    rw [e]; exact GU_0 u0 u1 (fun z => z.2.1 zy)
  have q := sB_pk hg g0 g0' (h.2.1 zx) (h'.2.1 zy)
  have px := PkB_f (h.2.1 zx) (show g ≤ 50 by omega)
  have py := PkB_f (h'.2.1 zy) (show g' ≤ 50 by omega)
  have a0 := f0_in x
  have b0 := f0_in y
  have c := f1_in x
  have d := f1_in y
  have o := orb_in a0.1 a0.2 b0.1 b0.2
  have p := orb_in c.1 c.2 d.1 d.2
  have ff := (fld o.1 o.2 p.1 p.2 (show 0 ≤ f2 x + f2 y by omega) (by omega) (show 0 ≤ f3 x + f3 y by omega) (by omega)).1
  refine ⟨by rw [q.1]; unfold pk r64; omega, fun _ => q.2, ?_⟩
  unfold bu
  rw [q.1, ff, (bit_or8 a0.1 a0.2 b0.1 b0.2 u0 u1).1]
  exact ⟨fun z => ⟨zx, zy, z.elim (fun w => Or.inl (h.2.2.mp w)) (fun w => Or.inr (h'.2.2.mp w))⟩, fun z => z.2.2.elim (fun w => Or.inl (h.2.2.mpr w)) (fun w => Or.inr (h'.2.2.mpr w))⟩
theorem GU_P (u0 : 0 ≤ u) (u1 : u < 8) {g t x : Int} {T : Prop} (g0 : 0 ≤ g) (hg : g < 50) (t0 : 0 ≤ t) (t1 : t < 8) (h : GU u g x T) : GU u (g + 1) (sP' t x) (x ≠ 0 ∧ (u = t ∨ T)) := by
  by_cases zx : x = 0
  · have e : sP' t x = 0 := by unfold sP'; rw [if_pos zx]
    rw [e]; exact GU_0 u0 u1 (fun z => z.1 zx)
  have q := sP_pk g0 hg t0 t1 (h.2.1 zx)
  have px := PkB_f (h.2.1 zx) (show g ≤ 50 by omega)
  have a0 := f0_in x
  have c := f1_in x
  have b8 : (((2 ^ (8 : Int).toNat : Nat)) : Int) = 256 := by decide
  have o := or1_in (x := f0 x) (t := t) (n := 8) a0.1 (by decide) (by decide) (by rw [b8]; exact a0.2) t0 t1
  have p := or1_in (x := f1 x) (t := t) (n := 8) c.1 (by decide) (by decide) (by rw [b8]; exact c.2) t0 t1
  rw [b8] at o p
  have ff := (fld o.1 o.2 p.1 p.2 (show 0 ≤ f2 x + 1 by omega) (by omega) (show 0 ≤ f3 x + 1 by omega) (by omega)).1
  refine ⟨by rw [q.1]; unfold pk r64; omega, fun _ => q.2, ?_⟩
  unfold bu
  rw [q.1, ff, bit_or1 a0.1 (by omega) t0 (by omega) u0 (by omega)]
  by_cases hu : u = t
  · rw [if_pos hu]
    exact ⟨fun _ => ⟨zx, Or.inl hu⟩, fun _ => rfl⟩
  · rw [if_neg hu]
    exact ⟨fun z => ⟨zx, Or.inr (h.2.2.mp z)⟩, fun z => z.2.elim (fun w => absurd w hu) (fun w => h.2.2.mpr w)⟩
theorem GU_I (u0 : 0 ≤ u) (u1 : u < 8) {lt : Int → Int} {g : Int} (hg : g ≤ 50) {f : Int → Int} {T : Int → Prop} {lo hi : Int} (h : ∀ k, lo ≤ k → k ≤ hi → GU u g (f k) (T k)) : GU u g (aI (agS lt) f lo hi) (∃ k, (lo ≤ k ∧ k ≤ hi) ∧ T k) := by
  have key : ∀ n : Nat, (∀ k : Nat, k < n → GU u g (f (lo + k)) (T (lo + k))) → GU u g (aN (agS lt) f lo n) (∃ k : Nat, k < n ∧ T (lo + k)) := by
    intro n
    induction n with
    | zero => intro _; exact GU_0 u0 u1 (fun ⟨k, hk, _⟩ => by omega)
    | succ n ih =>
      intro hk
      refine GU_c (GU_E u0 u1 hg (ih (fun k hk' => hk k (by omega))) (hk n (by omega))) ⟨?_, ?_⟩
      · rintro (⟨k, a, c⟩ | c)
        · exact ⟨k, by omega, c⟩
        · exact ⟨n, by omega, c⟩
      · rintro ⟨k, a, c⟩
        by_cases hn : k = n
        · subst hn; exact Or.inr c
        · exact Or.inl ⟨k, by omega, c⟩
  refine GU_c (key (hi + 1 - lo).toNat (fun k hk => h _ (by omega) (by omega))) ⟨?_, ?_⟩
  · rintro ⟨k, a, c⟩
    exact ⟨lo + k, ⟨by omega, by omega⟩, c⟩
  · rintro ⟨k, ⟨a, c⟩, d⟩
    refine ⟨(k - lo).toNat, by omega, ?_⟩
    rw [show lo + (((k - lo).toNat : Nat) : Int) = k by omega]
    exact d
end
section
variable {G : Gm} {ou : Int → Bool} {row : Int → Int} {sz u : Int} {S : SV}
theorem itemGU (I : GIn G) (Q : AEq G ou (agS row) r64 sz S) {half node i j p q g : Int} (h : itm G half node i j p q) (hj : j ≤ sz) (hg : gr G node i j p q ≤ g) (g0 : 0 ≤ g) (g50 : g ≤ 50) : GU u g (S half node i j p q) (bu u (S half node i j p q)) :=
  ⟨(Q _ _ _ _ _ _ h hj).1, (sum_z I Q h hj hg g0 g50).2, Iff.rfl⟩
def UA (G : Gm) (ou : Int → Bool) (S : SV) (u node i j p q : Int) : Prop :=
  (mk G node ≠ 2 ∧ bu u (S 0 node i j p q)) ∨
  (mk G node ≠ 1 ∧ ∃ t, (0 ≤ t ∧ t ≤ nT G - 1) ∧ goB G ou t (lb G node) 1 = true ∧ ∃ a, (i ≤ a ∧ a ≤ (if p = -1 then j else p)) ∧ ∃ c, ((if p = -1 then a else q) ≤ c ∧ c ≤ j) ∧ (S 1 (ft G t) i j a c ≠ 0 ∧ S 0 node a c p q ≠ 0) ∧ (u = t ∨ bu u (S 1 (ft G t) i j a c) ∨ bu u (S 0 node a c p q)))
theorem uA (u0 : 0 ≤ u) (u1 : u < 8) (I : GIn G) (Q : AEq G ou (agS row) r64 sz S) {node i j p q : Int} (h : itm G 1 node i j p q) (hj : j ≤ sz) (hk : kd G node = 0) (hg : gr G node i j p q ≤ 50) : bu u (S 1 node i j p q) ↔ UA G ou S u node i j p q := by
  have W := I.1
  have L := agS_law row
  have nt := wf_nt W
  have hh := half_item h
  have i0 := h.2.2.2.1
  have j8 := h.2.2.2.2.2.1
  have hV : ∀ half node i j p q, itm G half node i j p q → j ≤ sz → r64 (S half node i j p q) := fun _ _ _ _ _ _ a b => (Q _ _ _ _ _ _ a b).1
  have gb := itemGU (u := u) I Q hh.1 hj hg (by decide) (by decide)
  have bare : GU u 50 (if mk G node = 2 then 0 else S 0 node i j p q) (mk G node ≠ 2 ∧ bu u (S 0 node i j p q)) := by
    by_cases hm : mk G node = 2
    · rw [if_pos hm]; exact GU_0 u0 u1 (fun z => z.1 hm)
    · rw [if_neg hm]; exact GU_c gb ⟨fun z => ⟨hm, z⟩, fun z => z.2⟩
  have cell : ∀ a, i ≤ a → a ≤ (if p = -1 then j else p) → ∀ c, (if p = -1 then a else q) ≤ c → c ≤ j → GU u 50 (aB (agS row) (gSum G ou (agS row) S dT (lb G node) i j a c) (S 0 node a c p q)) (∃ t, (0 ≤ t ∧ t ≤ nT G - 1) ∧ goB G ou t (lb G node) 1 = true ∧ (S 1 (ft G t) i j a c ≠ 0 ∧ S 0 node a c p q ≠ 0) ∧ (u = t ∨ bu u (S 1 (ft G t) i j a c) ∨ bu u (S 0 node a c p q))) := by
    intro a a0 a1 c c0 c1
    obtain ⟨x1, x2, x3, x4, x5⟩ := rnd_itm h a0 a1 c0 c1
    have vi := hV _ _ _ _ _ _ x1 (show c ≤ sz by omega)
    have vg : r64 (gSum G ou (agS row) S dT (lb G node) i j a c) := by
      unfold gSum
      apply aI_V L
      intro t t0 t1
      rw [Bool.and_true]
      split
      · rename_i hg'
        have r := root_in W t0 (show t < nT G by omega)
        exact ag_P L t0 (by omega) (hV _ _ _ _ _ _ ⟨Or.inr rfl, r.1, r.2.1, i0, by omega, j8, Or.inl ⟨(goB_spec hg').1, x3, x4, x5⟩⟩ hj)
      · exact ag_0 L
    by_cases hn : cov a c p q < nd G node
    · have z := (Q _ _ _ _ _ _ x1 (show c ≤ sz by omega)).2.1 hn
      rw [z, ag_B0 L vg]
      exact GU_0 u0 u1 (fun ⟨t, _, _, w, _⟩ => w.2 rfl)
    have gi := (gr_nn I x1 (by omega)).1
    by_cases hany : ∃ t, 0 ≤ t ∧ t < nT G ∧ goB G ou t (lb G node) 1 = true ∧ S 1 (ft G t) i j a c ≠ 0
    · obtain ⟨tt, tt0, tt1, ttg, ttz⟩ := hany
      obtain ⟨f1, f2, f3, -⟩ := around_items W h tt0 tt1 (goB_spec ttg).1 a0 a1 c0 c1
      have ttc : ¬ cov i j a c < nd G (ft G tt) := fun z => ttz ((Q _ _ _ _ _ _ f2 hj).2.1 z)
      have gd : gr G node i j p q - gr G node a c p q = 5 * cov i j a c := by unfold gr; omega
      have gt0 := (gr_nn I f2 (by omega)).1
      have gt1 := gr_round I (node := node) (i := i) (j := j) (p := p) (q := q) tt0 tt1 (goB_spec ttg).1 f3
      have gs : GU u (5 * cov i j a c) (gSum G ou (agS row) S dT (lb G node) i j a c) (∃ t, (0 ≤ t ∧ t ≤ nT G - 1) ∧ (goB G ou t (lb G node) 1 = true ∧ S 1 (ft G t) i j a c ≠ 0 ∧ (u = t ∨ bu u (S 1 (ft G t) i j a c)))) := by
        unfold gSum
        apply GU_I u0 u1 (by omega)
        intro t t0 t1
        rw [Bool.and_true]
        cases hg' : goB G ou t (lb G node) 1
        · rw [if_neg Bool.false_ne_true]
          exact GU_0 u0 u1 (fun z => Bool.false_ne_true z.1)
        · rw [if_pos rfl]
          obtain ⟨f1, f2, f3, -⟩ := around_items W h t0 (show t < nT G by omega) (goB_spec hg').1 a0 a1 c0 c1
          have gq := gr_round I (node := node) (i := i) (j := j) (p := p) (q := q) t0 (show t < nT G by omega) (goB_spec hg').1 f3
          have := GU_P u0 u1 (t := t) (show 0 ≤ 5 * cov i j a c - 1 by omega) (by omega) t0 (by omega) (itemGU (u := u) I Q f2 hj (show gr G (ft G t) i j a c ≤ 5 * cov i j a c - 1 by omega) (by omega) (by omega))
          rw [show 5 * cov i j a c - 1 + 1 = 5 * cov i j a c by omega] at this
          exact GU_c this ⟨fun z => ⟨rfl, z⟩, fun z => z.2⟩
      -- the sum is something, for tt is
      have gne : gSum G ou (agS row) S dT (lb G node) i j a c ≠ 0 := by
        have e : GV 0 50 (gSum G ou (agS row) S dT (lb G node) i j a c) (fun v => ∃ t, 0 ≤ t ∧ t ≤ nT G - 1 ∧ (goB G ou t (lb G node) 1 = true ∧ S 1 (ft G t) i j a c ≠ 0 ∧ v = fv 0 (S 1 (ft G t) i j a c) + 1)) := by
          unfold gSum
          apply GV_I (by decide)
          intro t t0 t1
          rw [Bool.and_true]
          cases hg' : goB G ou t (lb G node) 1
          · rw [if_neg Bool.false_ne_true]
            exact GV_0 (fun v z => Bool.false_ne_true z.1)
          · rw [if_pos rfl]
            obtain ⟨f1, f2, f3, -⟩ := around_items W h t0 (show t < nT G by omega) (goB_spec hg').1 a0 a1 c0 c1
            have gq := gr_round I (node := node) (i := i) (j := j) (p := p) (q := q) t0 (show t < nT G by omega) (goB_spec hg').1 f3
            have := GV_P (t := t) (show (0 : Int) ≤ 49 by decide) (by decide) t0 (by omega) (itemGV (b := 0) I Q f2 hj (show gr G (ft G t) i j a c ≤ 49 by omega) (by decide) (by decide))
            exact GV_c this (fun v => ⟨fun ⟨w, hw, hv⟩ => ⟨rfl, hw.1, by rw [hv, hw.2]⟩, fun z => ⟨_, ⟨z.2.1, rfl⟩, z.2.2⟩⟩)
        intro hz
        rcases e.2.2 with ⟨-, z⟩ | ⟨z, -⟩
        · exact z _ ⟨tt, tt0, by omega, ttg, ttz, rfl⟩
        · unfold qv at z; rw [if_pos hz] at z; omega
      have gb2 := itemGU (u := u) I Q x1 (show c ≤ sz by omega) (Int.le_refl _) gi (by omega)
      refine GU_c (GU_m (GU_B u0 u1 (by omega) gi (by omega) gs gb2) (by omega)) ⟨?_, ?_⟩
      · rintro ⟨-, z0, z | z⟩
        · obtain ⟨t, ht, hg', hz, hu⟩ := z
          exact ⟨t, ht, hg', ⟨hz, z0⟩, hu.elim Or.inl (fun w => Or.inr (Or.inl w))⟩
        · exact ⟨tt, ⟨tt0, by omega⟩, ttg, ⟨ttz, z0⟩, Or.inr (Or.inr z)⟩
      · rintro ⟨t, ht, hg', ⟨hz, z0⟩, hu | hu | hu⟩
        · exact ⟨gne, z0, Or.inl ⟨t, ht, hg', hz, Or.inl hu⟩⟩
        · exact ⟨gne, z0, Or.inl ⟨t, ht, hg', hz, Or.inr hu⟩⟩
        · exact ⟨gne, z0, Or.inr hu⟩
    · have z1 : gSum G ou (agS row) S dT (lb G node) i j a c = 0 := by
        unfold gSum
        apply aI_zero L
        intro t t0 t1
        rw [Bool.and_true]
        split
        · rename_i hg'
          have : S 1 (ft G t) i j a c = 0 := Classical.byContradiction (fun z => hany ⟨t, t0, by omega, hg', z⟩)
          rw [this, ag_P0 L t0 (by omega)]
        · rfl
      rw [z1, ag_0B L vi]
      exact GU_0 u0 u1 (fun ⟨t, ⟨t0, t1⟩, hg', hz, _⟩ => hany ⟨t, t0, by omega, hg', hz.1⟩)
  have round : GU u 50 (if mk G node = 1 then 0 else aRound G ou (agS row) S node i j p q) (mk G node ≠ 1 ∧ ∃ a, (i ≤ a ∧ a ≤ (if p = -1 then j else p)) ∧ ∃ c, ((if p = -1 then a else q) ≤ c ∧ c ≤ j) ∧ ∃ t, (0 ≤ t ∧ t ≤ nT G - 1) ∧ goB G ou t (lb G node) 1 = true ∧ (S 1 (ft G t) i j a c ≠ 0 ∧ S 0 node a c p q ≠ 0) ∧ (u = t ∨ bu u (S 1 (ft G t) i j a c) ∨ bu u (S 0 node a c p q))) := by
    by_cases hm : mk G node = 1
    · rw [if_pos hm]; exact GU_0 u0 u1 (fun z => z.1 hm)
    · rw [if_neg hm]
      refine GU_c ?_ ⟨fun z => ⟨hm, z⟩, fun z => z.2⟩
      unfold aRound
      apply GU_I u0 u1 (by decide)
      intro a a0 a1
      apply GU_I u0 u1 (by decide)
      intro c c0 c1
      exact cell a a0 a1 c c0 c1
  rw [(Q _ _ _ _ _ _ h hj).2.2.2.2.2.2.2.2 hk rfl]
  refine (GU_E u0 u1 (by decide) bare round).2.2.trans ⟨?_, ?_⟩
  · rintro (z | ⟨hm, a, ha, c, hc, t, ht, hg', x1, x2⟩)
    · exact Or.inl z
    · exact Or.inr ⟨hm, t, ht, hg', a, ha, c, hc, x1, x2⟩
  · rintro (z | ⟨hm, t, ht, hg', a, ha, c, hc, x1, x2⟩)
    · exact Or.inl z
    · exact Or.inr ⟨hm, a, ha, c, hc, t, ht, hg', x1, x2⟩
def US (G : Gm) (ou : Int → Bool) (row : Int → Int) (S : SV) (u node i j p q : Int) : Prop :=
  ∃ m, (i ≤ m ∧ m ≤ j) ∧ wSplit G (wW G ou row) node i m j p q ≠ 0 ∧ (bu u (S 1 (c1 G node) i m (gp (sp G (c1 G node)) p) (gp (sp G (c1 G node)) q)) ∨ bu u (S 1 (c2 G node) m j (gp (sp G (c2 G node)) p) (gp (sp G (c2 G node)) q)))
theorem uS (u0 : 0 ≤ u) (u1 : u < 8) (I : GIn G) (Q : AEq G ou (agS row) r64 sz S) {node i j p q : Int} (h : itm G 0 node i j p q) (hj : j ≤ sz) (hk : kd G node = 0) (h2 : c2 G node ≠ -1) (hg : gr G node i j p q ≤ 50) : bu u (S 0 node i j p q) ↔ US G ou row S u node i j p q := by
  have W := I.1
  have L := agS_law row
  rw [(Q _ _ _ _ _ _ h hj).2.2.2.2.2.2.2.1 hk rfl h2]
  have hV : ∀ half node i j p q, itm G half node i j p q → j ≤ sz → r64 (S half node i j p q) := fun _ _ _ _ _ _ a b => (Q _ _ _ _ _ _ a b).1
  have term : ∀ k, (if sp G (c1 G node) = 1 then q else i) ≤ k → k ≤ (if sp G (c1 G node) = 1 then j else if sp G node = 1 then p else j) → GU u 50 (aB (agS row) (S 1 (c1 G node) i k (gp (sp G (c1 G node)) p) (gp (sp G (c1 G node)) q)) (S 1 (c2 G node) k j (gp (sp G (c2 G node)) p) (gp (sp G (c2 G node)) q))) (wSplit G (wW G ou row) node i k j p q ≠ 0 ∧ (bu u (S 1 (c1 G node) i k (gp (sp G (c1 G node)) p) (gp (sp G (c1 G node)) q)) ∨ bu u (S 1 (c2 G node) k j (gp (sp G (c2 G node)) p) (gp (sp G (c2 G node)) q)))) := by
    intro k k0 k1
    obtain ⟨f1, f2, f3⟩ := spl_itm W h hk h2 k0 k1
    obtain ⟨g1, g2, g3, g4⟩ := spl_rng W h hk h2 k0 k1
    have v1 := hV _ _ _ _ _ _ f1 (by omega)
    have v2 := hV _ _ _ _ _ _ f2 hj
    by_cases hn : cov i k (gp (sp G (c1 G node)) p) (gp (sp G (c1 G node)) q) < nd G (c1 G node) ∨ cov k j (gp (sp G (c2 G node)) p) (gp (sp G (c2 G node)) q) < nd G (c2 G node)
    · have zs : wSplit G (wW G ou row) node i k j p q = 0 := by
        unfold wSplit
        rw [if_neg (fun z => by have := z.2.2; omega)]
      have za : aB (agS row) (S 1 (c1 G node) i k (gp (sp G (c1 G node)) p) (gp (sp G (c1 G node)) q)) (S 1 (c2 G node) k j (gp (sp G (c2 G node)) p) (gp (sp G (c2 G node)) q)) = 0 := by
        rcases hn with z | z
        · rw [(Q _ _ _ _ _ _ f1 (by omega)).2.1 z, ag_0B L v2]
        · rw [(Q _ _ _ _ _ _ f2 hj).2.1 z, ag_B0 L v1]
      rw [za]
      exact GU_0 u0 u1 (fun z => z.1 zs)
    · have ga := (gr_nn I f1 (by omega)).1
      have gb := (gr_nn I f2 (by omega)).1
      have gs := gr_split I h.2.1 h.2.2.1 hk h2 f3
      have r1 := itemGU (u := u) I Q f1 (by omega) (Int.le_refl _) ga (by omega)
      have r2 := itemGU (u := u) I Q f2 hj (Int.le_refl _) gb (by omega)
      have z1 := S_z I Q f1 (by omega) (by omega)
      have z2 := S_z I Q f2 hj (by omega)
      have ws : wSplit G (wW G ou row) node i k j p q ≠ 0 ↔ (S 1 (c1 G node) i k (gp (sp G (c1 G node)) p) (gp (sp G (c1 G node)) q) ≠ 0 ∧ S 1 (c2 G node) k j (gp (sp G (c2 G node)) p) (gp (sp G (c2 G node)) q) ≠ 0) := by
        unfold wSplit
        rw [if_pos ⟨g3, g4, by omega, by omega⟩, Nat.mul_ne_zero_iff, Ne, Ne, ← z1, ← z2]
      exact GU_c (GU_m (GU_B u0 u1 ga gb (by omega) r1 r2) (by omega)) ⟨fun z => ⟨ws.mpr ⟨z.1, z.2.1⟩, z.2.2⟩, fun z => ⟨(ws.mp z.1).1, (ws.mp z.1).2, z.2⟩⟩
  unfold aSplit
  refine (GU_I u0 u1 (lt := row) (by decide) term).2.2.trans ⟨?_, ?_⟩
  · rintro ⟨k, ⟨k0, k1⟩, hz, hv⟩
    obtain ⟨g1, g2, -⟩ := spl_rng W h hk h2 k0 k1
    exact ⟨k, ⟨g1, g2⟩, hz, hv⟩
  · rintro ⟨k, ⟨k0, k1⟩, hz, hv⟩
    obtain ⟨hh, n0, n1, i0, ij, j8, d⟩ := id h
    have hch := wf_ch W n0 n1 hk
    have q2 : c1 G node < c2 G node ∧ c2 G node < ft G (tr G node + 1) := by
      rcases hch.2.2 with q2 | q2
      · exact absurd q2 h2
      · exact q2
    have a1 := child_in W n0 n1 hch.1 hch.2.1
    have a2 := child_in W n0 n1 (by omega) q2.2
    have s0 := (wf_sp W n0 n1).2.2.2 hk
    rw [if_neg h2] at s0
    have s1 := (wf_sp W a1.1 a1.2.1).1
    have s2 := (wf_sp W a2.1 a2.2.1).1
    have sn := (wf_sp W n0 n1).1
    have cs : ¬ (sp G (c1 G node) = 1 ∧ k < q) ∧ ¬ (sp G (c2 G node) = 1 ∧ p < k) := by
      refine Classical.byContradiction (fun hne => hz ?_)
      unfold wSplit
      rw [if_neg (fun z => hne ⟨z.1, z.2.1⟩)]
    refine ⟨k, ⟨?_, ?_⟩, hz, hv⟩
    · by_cases z1 : sp G (c1 G node) = 1
      · rw [if_pos z1]; have := cs.1; omega
      · rw [if_neg z1]; exact k0
    · by_cases z1 : sp G (c1 G node) = 1
      · rw [if_pos z1]; exact k1
      · rw [if_neg z1]
        by_cases z2 : sp G node = 1
        · rw [if_pos z2]; have := cs.2; omega
        · rw [if_neg z2]; exact k1
def UH (G : Gm) (ou : Int → Bool) (S : SV) (u l i j : Int) : Prop := ∃ t, (0 ≤ t ∧ t ≤ nT G - 1) ∧ goB G ou t l 0 = true ∧ S 1 (ft G t) i j (-1) (-1) ≠ 0 ∧ (u = t ∨ bu u (S 1 (ft G t) i j (-1) (-1)))
theorem uH (u0 : 0 ≤ u) (u1 : u < 8) (I : GIn G) (Q : AEq G ou (agS row) r64 sz S) {l i j : Int} (i0 : 0 ≤ i) (ij : i ≤ j) (j8 : j ≤ 8) (hj : j ≤ sz) (hg : ∀ t, 0 ≤ t → t < nT G → sp G (ft G t) = 0 → gr G (ft G t) i j (-1) (-1) ≤ 49) : bu u (aHosts G ou (agS row) S l i j) ↔ UH G ou S u l i j := by
  have W := I.1
  have nt := wf_nt W
  have term : ∀ t, 0 ≤ t → t ≤ nT G - 1 → GU u 50 (if goB G ou t l 0 then aP (agS row) t (S 1 (ft G t) i j (-1) (-1)) else 0) (goB G ou t l 0 = true ∧ S 1 (ft G t) i j (-1) (-1) ≠ 0 ∧ (u = t ∨ bu u (S 1 (ft G t) i j (-1) (-1)))) := by
    intro t t0 t1
    cases hg' : goB G ou t l 0
    · rw [if_neg Bool.false_ne_true]
      exact GU_0 u0 u1 (fun z => Bool.false_ne_true z.1)
    · rw [if_pos rfl]
      have hs := (goB_spec hg').1
      have hi := root_item W (i := i) (j := j) t0 (show t < nT G by omega) hs i0 ij j8
      exact GU_c (GU_P u0 u1 (t := t) (show (0 : Int) ≤ 49 by decide) (by decide) t0 (by omega) (itemGU (u := u) I Q hi hj (hg t t0 (by omega) hs) (by decide) (by decide))) ⟨fun z => ⟨rfl, z⟩, fun z => z.2⟩
  unfold aHosts
  exact (GU_I u0 u1 (lt := row) (by decide) term).2.2
end
