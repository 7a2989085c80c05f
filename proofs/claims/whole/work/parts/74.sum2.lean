/-! the class: what is summed up, and what it says -/
def PkB (g x : Int) : Prop := ∃ s e f m, x = pk s e f m ∧ (0 ≤ s ∧ s < 256) ∧ (0 ≤ e ∧ e < 256) ∧ 0 ≤ f ∧ f ≤ m ∧ m ≤ g
theorem PkB_f {g x : Int} (h : PkB g x) (hg : g ≤ 50) : x = pk (f0 x) (f1 x) (f2 x) (f3 x) ∧ 0 ≤ f2 x ∧ f2 x ≤ f3 x ∧ f3 x ≤ g ∧ x ≠ 0 := by
  obtain ⟨s, e, f, m, rfl, hs, he, f0', fm, mg⟩ := h
  obtain ⟨a, b, c, d⟩ := fld hs.1 hs.2 he.1 he.2 f0' (by omega) (show 0 ≤ m by omega) (by omega)
  rw [a, b, c, d]
  exact ⟨rfl, f0', fm, mg, by unfold pk; omega⟩
theorem PkB_m {g g' x : Int} (h : PkB g x) (hg : g ≤ g') : PkB g' x := by
  obtain ⟨s, e, f, m, a, b, c, d, k, l⟩ := h
  exact ⟨s, e, f, m, a, b, c, d, k, by omega⟩
theorem PkB_E {g x y : Int} (hg : g ≤ 50) (hx : PkB g x) (hy : PkB g y) : PkB g (sE x y) := by
  obtain ⟨-, x2, x3, x4, x5⟩ := PkB_f hx hg
  obtain ⟨-, y2, y3, y4, y5⟩ := PkB_f hy hg
  have a := f0_in x
  have b := f0_in y
  have c := f1_in x
  have d := f1_in y
  have o := orb_in a.1 a.2 b.1 b.2
  have p := andb_in c.1 c.2 d.1 d.2
  exact ⟨_, _, _, _, sE_pk x5 y5, o, p, by omega, by omega, by omega⟩
theorem sB_pk {g g' x y : Int} (hg : g + g' ≤ 50) (g0 : 0 ≤ g) (g0' : 0 ≤ g') (hx : PkB g x) (hy : PkB g' y) : sBt x y = pk (i_or (f0 x) (f0 y)) (i_or (f1 x) (f1 y)) (f2 x + f2 y) (f3 x + f3 y) ∧ PkB (g + g') (sBt x y) := by
  obtain ⟨-, x2, x3, x4, x5⟩ := PkB_f hx (by omega)
  obtain ⟨-, y2, y3, y4, y5⟩ := PkB_f hy (by omega)
  have a := f0_in x
  have b := f0_in y
  have c := f1_in x
  have d := f1_in y
  have o := orb_in a.1 a.2 b.1 b.2
  have p := orb_in c.1 c.2 d.1 d.2
  have e : sBt x y = pk (i_or (f0 x) (f0 y)) (i_or (f1 x) (f1 y)) (f2 x + f2 y) (f3 x + f3 y) := by
    unfold sBt
    rw [if_neg (fun z => z.elim x5 y5), show w32 (f2 x + f2 y) = f2 x + f2 y by unfold w32; omega, show w32 (f3 x + f3 y) = f3 x + f3 y by unfold w32; omega]
    exact sPk_ok o.1 o.2 p.1 p.2 (by omega) (by omega) (by omega) (by omega)
  exact ⟨e, _, _, _, _, e, o, p, by omega, by omega, by omega⟩
theorem or_t0 : ∀ s : Fin 256, ∀ t : Fin 8, l_or ((s.val : Nat) : Int) (l_shl 1 ((t.val : Nat) : Int)) = i_or ((s.val : Nat) : Int) (i_shl 1 ((t.val : Nat) : Int)) ∧ l_or (l_shl ((s.val : Nat) : Int) 8) (l_shl 1 (w32 (((t.val : Nat) : Int) + 8))) = l_shl (i_or ((s.val : Nat) : Int) (i_shl 1 ((t.val : Nat) : Int))) 8 := by decide +kernel
theorem or_t {s t : Int} (s0 : 0 ≤ s) (s1 : s < 256) (t0 : 0 ≤ t) (t1 : t < 8) : l_or s (l_shl 1 t) = i_or s (i_shl 1 t) ∧ l_or (l_shl s 8) (l_shl 1 (w32 (t + 8))) = l_shl (i_or s (i_shl 1 t)) 8 := by
  have := or_t0 ⟨s.toNat, by omega⟩ ⟨t.toNat, by omega⟩
  simp only at this
  rwa [show ((s.toNat : Nat) : Int) = s by omega, show ((t.toNat : Nat) : Int) = t by omega] at this
theorem or5 (K F A B C D E : Int) : l_or (l_or (l_or (l_or (l_or (l_or K F) A) B) C) D) E = l_or (l_or (l_or (l_or K (l_or F D)) (l_or A E)) B) C := by
  unfold l_or
  simp only [i64_of]
  congr 1
  ac_rfl
theorem orP {s e f m t : Int} (hs : 0 ≤ s ∧ s < 256) (he : 0 ≤ e ∧ e < 256) (hf : 0 ≤ f ∧ f < 256) (hm : 0 ≤ m ∧ m < 256) (t0 : 0 ≤ t) (t1 : t < 8) (o : 0 ≤ i_or s (i_shl 1 t) ∧ i_or s (i_shl 1 t) < 256) (p : 0 ≤ i_or e (i_shl 1 t) ∧ i_or e (i_shl 1 t) < 256) : l_or (l_or (pk s e f m) (l_shl 1 t)) (l_shl 1 (w32 (t + 8))) = pk (i_or s (i_shl 1 t)) (i_or e (i_shl 1 t)) f m := by
  rw [← sPk_ok o.1 o.2 p.1 p.2 hf.1 hf.2 hm.1 hm.2, ← sPk_ok hs.1 hs.2 he.1 he.2 hf.1 hf.2 hm.1 hm.2]
  unfold sPk
  rw [or5, (or_t hs.1 hs.2 t0 t1).1, (or_t he.1 he.2 t0 t1).2]
theorem sP_pk {g t x : Int} (g0 : 0 ≤ g) (hg : g < 50) (t0 : 0 ≤ t) (t1 : t < 8) (hx : PkB g x) : sP' t x = pk (i_or (f0 x) (i_shl 1 t)) (i_or (f1 x) (i_shl 1 t)) (f2 x + 1) (f3 x + 1) ∧ PkB (g + 1) (sP' t x) := by
  obtain ⟨xe, x2, x3, x4, x5⟩ := PkB_f hx (by omega)
  have a := f0_in x
  have c := f1_in x
  have d := f2_in x
  have e' := f3_in x
  have b8 : (((2 ^ (8 : Int).toNat : Nat)) : Int) = 256 := by decide
  have o := or1_in (x := f0 x) (t := t) (n := 8) a.1 (by decide) (by decide) (by rw [b8]; exact a.2) t0 t1
  have p := or1_in (x := f1 x) (t := t) (n := 8) c.1 (by decide) (by decide) (by rw [b8]; exact c.2) t0 t1
  rw [b8] at o p
  have e : sP' t x = pk (i_or (f0 x) (i_shl 1 t)) (i_or (f1 x) (i_shl 1 t)) (f2 x + 1) (f3 x + 1) := by
    unfold sP'
    rw [if_neg x5]
    have hx1 : l_or (l_or x (l_shl 1 t)) (l_shl 1 (w32 (t + 8))) = pk (i_or (f0 x) (i_shl 1 t)) (i_or (f1 x) (i_shl 1 t)) (f2 x) (f3 x) := by
      have := orP a c d e' t0 t1 o p
      rw [← xe] at this
      exact this
    rw [hx1]
    unfold pk
    rw [w64_id (by omega) (by omega)]
    omega
  exact ⟨e, _, _, _, _, e, o, p, by omega, by omega, by omega⟩
/-- zero stands for none -/
def Rz (g x : Int) (n : Nat) : Prop := (x = 0 ↔ n = 0) ∧ (x ≠ 0 → PkB g x)
/-- a tree that each way has: without it there are none -/
def Rt (t g x : Int) (n : Nat) : Prop := (x = 0 → n = 0) ∧ (x ≠ 0 → PkB g x ∧ (bit (f1 x) t = 1 ↔ n = 0))
theorem bit_or8 {x y t : Int} (x0 : 0 ≤ x) (x1 : x < 256) (y0 : 0 ≤ y) (y1 : y < 256) (t0 : 0 ≤ t) (t1 : t < 8) : (bit (i_or x y) t = 1 ↔ (bit x t = 1 ∨ bit y t = 1)) ∧ (bit (i_and x y) t = 1 ↔ (bit x t = 1 ∧ bit y t = 1)) := by
  have o := orb_in x0 x1 y0 y1
  have p := andb_in x0 x1 y0 y1
  rw [bit_n o.1 (by omega) t0 (by omega), bit_n p.1 (by omega) t0 (by omega), bit_n x0 (by omega) t0 (by omega), bit_n y0 (by omega) t0 (by omega), i_or_n x0 (by omega) y0 (by omega), i_and_n x0 (by omega) y0 (by omega), Int.toNat_natCast, Int.toNat_natCast, Nat.testBit_or, Nat.testBit_and]
  cases x.toNat.testBit t.toNat <;> cases y.toNat.testBit t.toNat <;> simp
theorem bit_pw {t u : Int} (t0 : 0 ≤ t) (t1 : t < 8) (u0 : 0 ≤ u) (u1 : u < 8) : (bit (i_shl 1 t) u = 1 ↔ u = t) := by
  have := bit_or1 (x := 0) (t := t) (u := u) (by decide) (by decide) t0 (by omega) u0 (by omega)
  have hp : 2 ^ t.toNat ≤ 2 ^ 7 := Nat.pow_le_pow_right (by decide) (by omega)
  rw [i_shl_1 t0 (by omega)] at this ⊢
  rw [i_or_n (by decide) (by decide) (Int.natCast_nonneg _) (by omega), Int.toNat_natCast, show (0 : Int).toNat = 0 from rfl, Nat.zero_or] at this
  rw [this]
  split
  · simp [*]
  · rename_i h
    rw [bit_0 u0 (by omega)]
    simp [h]
section
variable {G : Gm} {ob n : Int} {row : Int → Int}
theorem sum_z {ou : Int → Bool} (I : GIn G) {sz : Int} {S : SV} (Q : AEq G ou (agS row) r64 sz S) {half node i j p q g : Int} (h : itm G half node i j p q) (hj : j ≤ sz) (hg : gr G node i j p q ≤ g) (g0 : 0 ≤ g) (g50 : g ≤ 50) : Rz g (S half node i j p q) (wW G ou row half node i j p q) := by
  have a := (mu_in I.1 h).1
  have nt := wf_nt I.1
  refine homg (ou' := ou) (R := Rz) I (agS_law row) Q (fun t _ _ h => h) ?_ ?_ ?_ ?_ ?_ ?_ ?_ (mu G half node i j p q + 1).toNat half node i j p q g h hj (by omega) hg g0 g50
  · intro g g' x n hx hg
    exact ⟨hx.1, fun z => PkB_m (hx.2 z) hg⟩
  · exact ⟨by simp, fun z => absurd rfl z⟩
  · refine ⟨by show (4294967296 : Int) = 0 ↔ 1 = 0; decide, fun _ => ⟨0, 0, 0, 0, rfl, by decide, by decide, by decide, by decide, by decide⟩⟩
  · intro i l _ _ _ _
    show Rz 0 (if row i = l then 4294967296 else 0) _
    split
    · exact ⟨by decide, fun _ => ⟨0, 0, 0, 0, rfl, by decide, by decide, by decide, by decide, by decide⟩⟩
    · exact ⟨by simp, fun z => absurd rfl z⟩
  · intro g x y m k g0 g50 vx vy hx hy
    show Rz g (sE x y) (m + k)
    by_cases zx : x = 0
    · subst zx
      have : sE 0 y = y := by unfold sE; rw [if_pos (Or.inl rfl), l_or_l0 vy]
      rw [this, hx.1.mp rfl, Nat.zero_add]; exact hy
    by_cases zy : y = 0
    · subst zy
      have : sE x 0 = x := by unfold sE; rw [if_pos (Or.inr rfl), l_or_r0 vx]
      rw [this, hy.1.mp rfl, Nat.add_zero]; exact hx
    have e := (sE_fld zx zy).1
    have hm : m ≠ 0 := fun z => zx (hx.1.mpr z)
    exact ⟨⟨fun z => absurd z e, fun z => by omega⟩, fun _ => PkB_E g50 (hx.2 zx) (hy.2 zy)⟩
  · intro g g' x y m k g0 g0' gs vx vy hx hy
    show Rz (g + g') (sBt x y) (m * k)
    by_cases zx : x = 0
    · subst zx
      rw [hx.1.mp rfl, Nat.zero_mul]
      have : sBt 0 y = 0 := by unfold sBt; rw [if_pos (Or.inl rfl)]
      rw [this]; exact ⟨by simp, fun z => absurd rfl z⟩
    by_cases zy : y = 0
    · subst zy
      rw [hy.1.mp rfl, Nat.mul_zero]
      have : sBt x 0 = 0 := by unfold sBt; rw [if_pos (Or.inr rfl)]
      rw [this]; exact ⟨by simp, fun z => absurd rfl z⟩
    have q := sB_pk gs g0 g0' (hx.2 zx) (hy.2 zy)
    have e := (PkB_f q.2 gs).2.2.2.2
    have hm : m ≠ 0 := fun z => zx (hx.1.mpr z)
    have hk : k ≠ 0 := fun z => zy (hy.1.mpr z)
    exact ⟨⟨fun z => absurd z e, fun z => absurd z (Nat.mul_ne_zero hm hk)⟩, fun _ => q.2⟩
  · intro g t x k g0 g50 t0 t1 ho vx hx
    show Rz (g + 1) (sP' t x) _
    rw [ho]
    by_cases zx : x = 0
    · subst zx
      have : sP' t 0 = 0 := by unfold sP'; rw [if_pos rfl]
      rw [this, hx.1.mp rfl]; exact ⟨by simp, fun z => absurd rfl z⟩
    · have q := sP_pk g0 g50 t0 (by omega) (hx.2 zx)
      have e := (PkB_f q.2 (by omega)).2.2.2.2
      have hk : k ≠ 0 := fun z => zx (hx.1.mpr z)
      exact ⟨⟨fun z => absurd z e, fun z => absurd z hk⟩, fun _ => q.2⟩
theorem sum_t {u : Int} (u0 : 0 ≤ u) (u1 : u < 8) {ou ou' : Int → Bool} (hou : ∀ t, 0 ≤ t → t < nT G → ou' t = (ou t || decide (t = u))) (I : GIn G) {sz : Int} {S : SV} (Q : AEq G ou (agS row) r64 sz S) {half node i j p q g : Int} (h : itm G half node i j p q) (hj : j ≤ sz) (hg : gr G node i j p q ≤ g) (g0 : 0 ≤ g) (g50 : g ≤ 50) : Rt u g (S half node i j p q) (wW G ou' row half node i j p q) := by
  have a := (mu_in I.1 h).1
  have nt := wf_nt I.1
  have zz : Rt u 0 0 0 := ⟨fun _ => rfl, fun z => absurd rfl z⟩
  have f1K : f1 4294967296 = 0 := (fld (a := 0) (b := 0) (c := 0) (d := 0) (by decide) (by decide) (by decide) (by decide) (by decide) (by decide) (by decide) (by decide)).2.1
  have one : Rt u 0 4294967296 1 := ⟨fun z => absurd z (by decide), fun _ => ⟨⟨0, 0, 0, 0, rfl, by decide, by decide, by decide, by decide, by decide⟩, by rw [f1K, bit_0 u0 (by omega)]; simp⟩⟩
  refine homg (ou' := ou') (R := Rt u) I (agS_law row) Q (fun t t0 t1 h => by rw [hou t t0 t1, h]; rfl) ?_ zz one ?_ ?_ ?_ ?_ (mu G half node i j p q + 1).toNat half node i j p q g h hj (by omega) hg g0 g50
  · intro g g' x n hx hg
    exact ⟨hx.1, fun z => ⟨PkB_m (hx.2 z).1 hg, (hx.2 z).2⟩⟩
  · intro i l _ _ _ _
    show Rt u 0 (if row i = l then 4294967296 else 0) _
    split
    · exact one
    · exact zz
  · intro g x y m k g0 g50 vx vy hx hy
    show Rt u g (sE x y) (m + k)
    by_cases zx : x = 0
    · subst zx
      have : sE 0 y = y := by unfold sE; rw [if_pos (Or.inl rfl), l_or_l0 vy]
      rw [this, hx.1 rfl, Nat.zero_add]; exact hy
    by_cases zy : y = 0
    · subst zy
      have : sE x 0 = x := by unfold sE; rw [if_pos (Or.inr rfl), l_or_r0 vx]
      rw [this, hy.1 rfl, Nat.add_zero]; exact hx
    obtain ⟨e, -, e1, -⟩ := sE_fld zx zy
    refine ⟨fun z => absurd z e, fun _ => ⟨PkB_E g50 (hx.2 zx).1 (hy.2 zy).1, ?_⟩⟩
    have c := f1_in x
    have d := f1_in y
    rw [e1, (bit_or8 c.1 c.2 d.1 d.2 u0 u1).2, (hx.2 zx).2, (hy.2 zy).2]
    omega
  · intro g g' x y m k g0 g0' gs vx vy hx hy
    show Rt u (g + g') (sBt x y) (m * k)
    by_cases zx : x = 0
    · subst zx
      rw [hx.1 rfl, Nat.zero_mul]
      exact ⟨fun _ => rfl, fun z => absurd (by unfold sBt; rw [if_pos (Or.inl rfl)]) z⟩
    by_cases zy : y = 0
    · subst zy
      rw [hy.1 rfl, Nat.mul_zero]
      exact ⟨fun _ => rfl, fun z => absurd (by unfold sBt; rw [if_pos (Or.inr rfl)]) z⟩
    have q := sB_pk gs g0 g0' (hx.2 zx).1 (hy.2 zy).1
    have e := (PkB_f q.2 gs).2.2.2.2
    refine ⟨fun z => absurd z e, fun _ => ⟨q.2, ?_⟩⟩
    have c := f1_in x
    have d := f1_in y
    have a0 := f0_in x
    have b0 := f0_in y
    have px := PkB_f (hx.2 zx).1 (show g ≤ 50 by omega)
    have py := PkB_f (hy.2 zy).1 (show g' ≤ 50 by omega)
    have o := orb_in a0.1 a0.2 b0.1 b0.2
    have p := orb_in c.1 c.2 d.1 d.2
    have ff := (fld o.1 o.2 p.1 p.2 (show 0 ≤ f2 x + f2 y by omega) (by omega) (show 0 ≤ f3 x + f3 y by omega) (by omega)).2.1
    rw [q.1, ff, (bit_or8 c.1 c.2 d.1 d.2 u0 u1).1, (hx.2 zx).2, (hy.2 zy).2, Nat.mul_eq_zero]
  · intro g t x k g0 g50 t0 t1 ho vx hx
    show Rt u (g + 1) (sP' t x) _
    by_cases zx : x = 0
    · subst zx
      have : sP' t 0 = 0 := by unfold sP'; rw [if_pos rfl]
      rw [this, hx.1 rfl]
      refine ⟨fun _ => by split <;> rfl, fun z => absurd rfl z⟩
    · have q := sP_pk g0 g50 t0 (by omega) (hx.2 zx).1
      have e := (PkB_f q.2 (by omega)).2.2.2.2
      refine ⟨fun z => absurd z e, fun _ => ⟨q.2, ?_⟩⟩
      have px := PkB_f (hx.2 zx).1 (show g ≤ 50 by omega)
      have a0 := f0_in x
      have c := f1_in x
      have b8 : (((2 ^ (8 : Int).toNat : Nat)) : Int) = 256 := by decide
      have o := or1_in (x := f0 x) (t := t) (n := 8) a0.1 (by decide) (by decide) (by rw [b8]; exact a0.2) t0 (by omega)
      have p := or1_in (x := f1 x) (t := t) (n := 8) c.1 (by decide) (by decide) (by rw [b8]; exact c.2) t0 (by omega)
      rw [b8] at o p
      have ff := (fld o.1 o.2 p.1 p.2 (show 0 ≤ f2 x + 1 by omega) (by omega) (show 0 ≤ f3 x + 1 by omega) (by omega)).2.1
      rw [q.1, ff, bit_or1 c.1 (by omega) t0 (by omega) u0 (by omega), hou t t0 t1, ho, Bool.false_or]
      by_cases hu : u = t
      · rw [if_pos hu, if_pos (decide_eq_true hu.symm)]; simp
      · rw [if_neg hu, if_neg (by simp; exact fun z => hu z.symm)]
        exact (hx.2 zx).2
end
