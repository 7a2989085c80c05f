/-! fewest and most steps, as what is attained -/
def fv (b x : Int) : Int := if b = 0 then f2 x else f3 x
def qv (b x : Int) : Int := if x = 0 then -1 else fv b x
def bst (b x y : Int) : Int := if x = -1 ∨ y = -1 then max x y else if b = 0 then min x y else max x y
def bth (x y : Int) : Int := if x = -1 then -1 else if y = -1 then -1 else x + y
/-- v is the best of T (-1: T has none) -/
def IsB (b v : Int) (T : Int → Prop) : Prop := (v = -1 ∧ ∀ x, ¬ T x) ∨ (0 ≤ v ∧ T v ∧ ∀ x, T x → 0 ≤ x ∧ (if b = 0 then v ≤ x else x ≤ v))
theorem IsB_u {b v v' : Int} {T : Int → Prop} (h : IsB b v T) (h' : IsB b v' T) : v = v' := by
  rcases h with ⟨a, c⟩ | ⟨a, c, d⟩ <;> rcases h' with ⟨a', c'⟩ | ⟨a', c', d'⟩
  · omega
  · exact absurd c' (c v')
  · exact absurd c (c' v)
  · have x := (d v' c').2
    have y := (d' v c).2
    by_cases hb : b = 0
    · rw [if_pos hb] at x y; omega
    · rw [if_neg hb] at x y; omega
theorem IsB_c {b v : Int} {T T' : Int → Prop} (h : IsB b v T) (e : ∀ x, T x ↔ T' x) : IsB b v T' := by
  rcases h with ⟨a, c⟩ | ⟨a, c, d⟩
  · exact Or.inl ⟨a, fun x hx => c x ((e x).mpr hx)⟩
  · exact Or.inr ⟨a, (e v).mp c, fun x hx => d x ((e x).mpr hx)⟩
theorem IsB_no {b : Int} {T : Int → Prop} (h : ∀ x, ¬ T x) : IsB b (-1) T := Or.inl ⟨rfl, h⟩
theorem IsB_one {b v : Int} (h : 0 ≤ v) : IsB b v (fun x => x = v) := Or.inr ⟨h, rfl, fun x hx => by subst hx; exact ⟨h, by split <;> omega⟩⟩
theorem IsB_lo {b v : Int} {T : Int → Prop} (h : IsB b v T) : -1 ≤ v := by
  rcases h with ⟨a, -⟩ | ⟨a, -⟩ <;> omega
theorem IsB_E {b v v' : Int} {T T' : Int → Prop} (h : IsB b v T) (h' : IsB b v' T') : IsB b (bst b v v') (fun x => T x ∨ T' x) := by
  unfold bst
  rcases h with ⟨a, c⟩ | ⟨a, c, d⟩ <;> rcases h' with ⟨a', c'⟩ | ⟨a', c', d'⟩
  · left
    rw [if_pos (Or.inl a), a, a']
    exact ⟨rfl, fun x hx => hx.elim (c x) (c' x)⟩
  · right
    rw [if_pos (Or.inl a), show max v v' = v' by omega]
    exact ⟨a', Or.inr c', fun x hx => hx.elim (fun z => absurd z (c x)) (d' x)⟩
  · right
    rw [if_pos (Or.inr a'), show max v v' = v by omega]
    exact ⟨a, Or.inl c, fun x hx => hx.elim (d x) (fun z => absurd z (c' x))⟩
  · right
    rw [if_neg (by omega)]
    by_cases hb : b = 0
    · rw [if_pos hb]
      refine ⟨by omega, ?_, fun x hx => ?_⟩
      · rcases (show min v v' = v ∨ min v v' = v' by omega) with e | e
        · rw [e]; exact Or.inl c
        · rw [e]; exact Or.inr c'
      · rw [if_pos hb]
        rcases hx with hx | hx
        · have := d x hx; rw [if_pos hb] at this; omega
        · have := d' x hx; rw [if_pos hb] at this; omega
    · rw [if_neg hb]
      refine ⟨by omega, ?_, fun x hx => ?_⟩
      · rcases (show max v v' = v ∨ max v v' = v' by omega) with e | e
        · rw [e]; exact Or.inl c
        · rw [e]; exact Or.inr c'
      · rw [if_neg hb]
        rcases hx with hx | hx
        · have := d x hx; rw [if_neg hb] at this; omega
        · have := d' x hx; rw [if_neg hb] at this; omega
theorem IsB_B {b v v' : Int} {T T' : Int → Prop} (h : IsB b v T) (h' : IsB b v' T') : IsB b (bth v v') (fun x => ∃ y z, T y ∧ T' z ∧ x = y + z) := by
  unfold bth
  rcases h with ⟨a, c⟩ | ⟨a, c, d⟩
  · left
    rw [if_pos a]
    exact ⟨rfl, fun x ⟨y, z, hy, _⟩ => c y hy⟩
  · rw [if_neg (by omega)]
    rcases h' with ⟨a', c'⟩ | ⟨a', c', d'⟩
    · left
      rw [if_pos a']
      exact ⟨rfl, fun x ⟨y, z, _, hz, _⟩ => c' z hz⟩
    · right
      rw [if_neg (by omega)]
      refine ⟨by omega, ⟨v, v', c, c', rfl⟩, ?_⟩
      rintro x ⟨y, z, hy, hz, rfl⟩
      have p := d y hy
      have q := d' z hz
      by_cases hb : b = 0
      · rw [if_pos hb] at p q ⊢; omega
      · rw [if_neg hb] at p q ⊢; omega
/-- a value of the summing up, with what it attains -/
def GV (b g x : Int) (T : Int → Prop) : Prop := r64 x ∧ (x ≠ 0 → PkB g x) ∧ IsB b (qv b x) T
theorem GV_m {b g g' x : Int} {T : Int → Prop} (h : GV b g x T) (hg : g ≤ g') : GV b g' x T := ⟨h.1, fun z => PkB_m (h.2.1 z) hg, h.2.2⟩
theorem GV_0 {b g : Int} {T : Int → Prop} (h : ∀ x, ¬ T x) : GV b g 0 T := ⟨r64_0, fun z => absurd rfl z, by unfold qv; rw [if_pos rfl]; exact IsB_no h⟩
theorem GV_c {b g x : Int} {T T' : Int → Prop} (h : GV b g x T) (e : ∀ x, T x ↔ T' x) : GV b g x T' := ⟨h.1, h.2.1, IsB_c h.2.2 e⟩
theorem fv_in {b g x : Int} (h : PkB g x) (hg : g ≤ 50) : 0 ≤ fv b x ∧ fv b x ≤ g ∧ x ≠ 0 := by
  obtain ⟨-, a, c, d, e⟩ := PkB_f h hg
  unfold fv
  refine ⟨?_, ?_, e⟩ <;> split <;> omega
theorem GV_self {b g x : Int} (hr : r64 x) (hp : x ≠ 0 → PkB g x) (hg : g ≤ 50) : GV b g x (fun v => x ≠ 0 ∧ v = fv b x) := by
  refine ⟨hr, hp, ?_⟩
  unfold qv
  by_cases hz : x = 0
  · rw [if_pos hz]; exact IsB_no (fun v z => z.1 hz)
  · rw [if_neg hz]
    exact IsB_c (IsB_one (fv_in (hp hz) hg).1) (fun v => ⟨fun z => ⟨hz, z⟩, fun z => z.2⟩)
theorem qv_z {b g x : Int} {T : Int → Prop} (h : GV b g x T) (hg : g ≤ 50) : qv b x = -1 ↔ x = 0 := by
  unfold qv
  by_cases hz : x = 0
  · rw [if_pos hz]; simp [hz]
  · rw [if_neg hz]
    have := (fv_in (b := b) (h.2.1 hz) hg).1
    constructor
    · intro z; omega
    · intro z; exact absurd z hz
theorem GV_E {b g x y : Int} {T T' : Int → Prop} (hg : g ≤ 50) (h : GV b g x T) (h' : GV b g y T') : GV b g (sE x y) (fun v => T v ∨ T' v) := by
  by_cases zx : x = 0
  · subst zx
    have e : sE 0 y = y := by unfold sE; rw [if_pos (Or.inl rfl), l_or_l0 h'.1]
    have nT : ∀ v, ¬ T v := by
      rcases h.2.2 with ⟨-, c⟩ | ⟨a, -⟩
      · exact c
      · unfold qv at a; rw [if_pos rfl] at a; omega
    rw [e]
    exact GV_c h' (fun v => ⟨Or.inr, fun z => z.elim (fun w => absurd w (nT v)) id⟩)
  by_cases zy : y = 0
  · subst zy
    have e : sE x 0 = x := by unfold sE; rw [if_pos (Or.inr rfl), l_or_r0 h.1]
    have nT : ∀ v, ¬ T' v := by
      rcases h'.2.2 with ⟨-, c⟩ | ⟨a, -⟩
      · exact c
      · unfold qv at a; rw [if_pos rfl] at a; omega
    rw [e]
    exact GV_c h (fun v => ⟨Or.inl, fun z => z.elim id (fun w => absurd w (nT v))⟩)
  obtain ⟨e, -, -, e2, e3⟩ := sE_fld zx zy
  refine ⟨sE_r, fun _ => PkB_E hg (h.2.1 zx) (h'.2.1 zy), ?_⟩
  have px := (fv_in (b := b) (h.2.1 zx) hg).1
  have py := (fv_in (b := b) (h'.2.1 zy) hg).1
  have : qv b (sE x y) = bst b (qv b x) (qv b y) := by
    unfold qv bst
    rw [if_neg e, if_neg zx, if_neg zy, if_neg (by omega)]
    unfold fv
    by_cases hb : b = 0
    · rw [if_pos hb, if_pos hb, if_pos hb, if_pos hb, e2]
    · rw [if_neg hb, if_neg hb, if_neg hb, if_neg hb, e3]
  rw [this]
  exact IsB_E h.2.2 h'.2.2
theorem GV_B {b g g' x y : Int} {T T' : Int → Prop} (g0 : 0 ≤ g) (g0' : 0 ≤ g') (hg : g + g' ≤ 50) (h : GV b g x T) (h' : GV b g' y T') : GV b (g + g') (sBt x y) (fun v => ∃ u w, T u ∧ T' w ∧ v = u + w) := by
  have noT : ∀ {x : Int} {T : Int → Prop} {g : Int}, GV b g x T → x = 0 → ∀ v, ¬ T v := by
    intro x T g h hz
    rcases h.2.2 with ⟨-, c⟩ | ⟨a, -⟩
    · exact c
    · unfold qv at a; rw [if_pos hz] at a; omega
  by_cases zx : x = 0
  · have e : sBt x y = 0 := by unfold sBt; rw [if_pos (Or.inl zx)]
    rw [e]
    exact GV_0 (fun v ⟨u, w, hu, _⟩ => noT h zx u hu)
  by_cases zy : y = 0
  · have e : sBt x y = 0 := by unfold sBt; rw [if_pos (Or.inr zy)]
    rw [e]
    exact GV_0 (fun v ⟨u, w, _, hw, _⟩ => noT h' zy w hw)
  have q := sB_pk hg g0 g0' (h.2.1 zx) (h'.2.1 zy)
  have px := PkB_f (h.2.1 zx) (show g ≤ 50 by omega)
  have py := PkB_f (h'.2.1 zy) (show g' ≤ 50 by omega)
  have e := (PkB_f q.2 hg).2.2.2.2
  have a0 := f0_in x
  have b0 := f0_in y
  have c := f1_in x
  have d := f1_in y
  have o := orb_in a0.1 a0.2 b0.1 b0.2
  have p := orb_in c.1 c.2 d.1 d.2
  have ff := fld o.1 o.2 p.1 p.2 (show 0 ≤ f2 x + f2 y by omega) (by omega) (show 0 ≤ f3 x + f3 y by omega) (by omega)
  refine ⟨by rw [q.1]; unfold pk r64; omega, fun _ => q.2, ?_⟩
  have fx := (fv_in (b := b) (h.2.1 zx) (by omega)).1
  have fy := (fv_in (b := b) (h'.2.1 zy) (by omega)).1
  have : qv b (sBt x y) = bth (qv b x) (qv b y) := by
    unfold qv bth
    rw [if_neg e, if_neg zx, if_neg zy, if_neg (by omega), if_neg (by omega)]
    unfold fv
    rw [q.1, ff.2.2.1, ff.2.2.2]
    split <;> rfl
  rw [this]
  exact IsB_B h.2.2 h'.2.2
theorem GV_P {b g t x : Int} {T : Int → Prop} (g0 : 0 ≤ g) (hg : g < 50) (t0 : 0 ≤ t) (t1 : t < 8) (h : GV b g x T) : GV b (g + 1) (sP' t x) (fun v => ∃ u, T u ∧ v = u + 1) := by
  by_cases zx : x = 0
  · have e : sP' t x = 0 := by unfold sP'; rw [if_pos zx]
    rw [e]
    refine GV_0 (fun v ⟨u, hu, _⟩ => ?_)
    rcases h.2.2 with ⟨-, c⟩ | ⟨a, -⟩
    · exact c u hu
    · unfold qv at a; rw [if_pos zx] at a; omega
  have q := sP_pk g0 hg t0 t1 (h.2.1 zx)
  have px := PkB_f (h.2.1 zx) (show g ≤ 50 by omega)
  have e := (PkB_f q.2 (by omega)).2.2.2.2
  have a0 := f0_in x
  have c := f1_in x
  have b8 : (((2 ^ (8 : Int).toNat : Nat)) : Int) = 256 := by decide
  have o := or1_in (x := f0 x) (t := t) (n := 8) a0.1 (by decide) (by decide) (by rw [b8]; exact a0.2) t0 t1
  have p := or1_in (x := f1 x) (t := t) (n := 8) c.1 (by decide) (by decide) (by rw [b8]; exact c.2) t0 t1
  rw [b8] at o p
  have ff := fld o.1 o.2 p.1 p.2 (show 0 ≤ f2 x + 1 by omega) (by omega) (show 0 ≤ f3 x + 1 by omega) (by omega)
  refine ⟨by rw [q.1]; unfold pk r64; omega, fun _ => q.2, ?_⟩
  have fx := (fv_in (b := b) (h.2.1 zx) (by omega)).1
  have : qv b (sP' t x) = bth (qv b x) 1 := by
    unfold qv bth
    rw [if_neg e, if_neg zx, if_neg (by omega), if_neg (by decide)]
    unfold fv
    rw [q.1, ff.2.2.1, ff.2.2.2]
    split <;> rfl
  rw [this]
  exact IsB_c (IsB_B h.2.2 (IsB_one (v := 1) (by decide))) (fun v => ⟨fun ⟨u, w, hu, hw, hv⟩ => ⟨u, hu, by rw [hv, hw]⟩, fun ⟨u, hu, hv⟩ => ⟨u, 1, hu, rfl, hv⟩⟩)
theorem GV_I {lt : Int → Int} {b g : Int} (hg : g ≤ 50) {f : Int → Int} {T : Int → Int → Prop} {lo hi : Int} (h : ∀ k, lo ≤ k → k ≤ hi → GV b g (f k) (T k)) : GV b g (aI (agS lt) f lo hi) (fun v => ∃ k, lo ≤ k ∧ k ≤ hi ∧ T k v) := by
  have key : ∀ n : Nat, (∀ k : Nat, k < n → GV b g (f (lo + k)) (T (lo + k))) → GV b g (aN (agS lt) f lo n) (fun v => ∃ k : Nat, k < n ∧ T (lo + k) v) := by
    intro n
    induction n with
    | zero => intro _; exact GV_0 (fun v ⟨k, hk, _⟩ => by omega)
    | succ n ih =>
      intro hk
      refine GV_c (GV_E hg (ih (fun k hk' => hk k (by omega))) (hk n (by omega))) (fun v => ⟨?_, ?_⟩)
      · rintro (⟨k, a, c⟩ | c)
        · exact ⟨k, by omega, c⟩
        · exact ⟨n, by omega, c⟩
      · rintro ⟨k, a, c⟩
        by_cases hn : k = n
        · subst hn; exact Or.inr c
        · exact Or.inl ⟨k, by omega, c⟩
  refine GV_c (key (hi + 1 - lo).toNat (fun k hk => h _ (by omega) (by omega))) (fun v => ⟨?_, ?_⟩)
  · rintro ⟨k, a, c⟩
    exact ⟨lo + k, by omega, by omega, c⟩
  · rintro ⟨k, a, c, d⟩
    refine ⟨(k - lo).toNat, by omega, ?_⟩
    rw [show lo + (((k - lo).toNat : Nat) : Int) = k by omega]
    exact d
