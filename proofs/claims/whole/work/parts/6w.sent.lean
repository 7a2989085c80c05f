/-! all short sentences -/
def dg (u m idx x : Nat) : Nat := idx / u ^ (m - 1 - x) % u
def wlF (v u m idx : Nat) : Int → Int := fun x => ((((bitsN v)[dg u m idx x.toNat]?).getD 0 : Nat) : Int)
def hw (f : Int → Int) : Nat → Int
  | 0 => 0
  | x + 1 => 27 * hw f x + f x + 1
def sC (v u m idx : Nat) : Cd := (hw (wlF v u m idx) m, wlF v u m idx)
def sA (v u m : Nat) (N : Nat) : List Cd := (List.range N).map (sC v u m)
theorem sA_succ (v u m N : Nat) : sA v u m (N + 1) = sA v u m N ++ [sC v u m N] := by
  unfold sA
  rw [List.range_succ, List.map_append]
  rfl
noncomputable def sentL (v : Nat) (G : Gm) (ob : Int) (m : Nat) : List Int := ((sA v (bitsN v).length m ((bitsN v).length ^ m)).filter (rdC G ob m)).map Prod.fst
theorem bitsN_lt {v k r : Nat} (h : (bitsN v)[k]? = some r) : r < 26 := by
  have := List.mem_of_getElem? h
  unfold bitsN at this
  rw [List.mem_filter] at this
  exact List.mem_range.mp this.1
theorem wl_get {v u m idx : Nat} (hu : u = (bitsN v).length) (u0 : 0 < u) (x : Int) : (bitsN v)[dg u m idx x.toNat]? = some (wlF v u m idx x).toNat ∧ 0 ≤ wlF v u m idx x ∧ wlF v u m idx x < 26 := by
  have hd : dg u m idx x.toNat < (bitsN v).length := by
    unfold dg
    rw [← hu]
    exact Nat.mod_lt _ u0
  have e := List.getElem?_eq_getElem hd
  have l := bitsN_lt e
  unfold wlF
  rw [e]
  refine ⟨?_, ?_, ?_⟩
  · simp
  · exact Int.natCast_nonneg _
  · show (((bitsN v)[dg u m idx x.toNat]'hd : Nat) : Int) < 26
    omega
theorem hw_in {f : Int → Int} : ∀ x : Nat, (∀ y : Nat, y < x → 0 ≤ f y ∧ f y < 26) → 0 ≤ hw f x ∧ hw f x < ((27 ^ x : Nat) : Int)
  | 0, _ => ⟨Int.le_refl _, by show (0 : Int) < ((27 ^ 0 : Nat) : Int); decide⟩
  | x + 1, h => by
    have ih := hw_in x (fun y hy => h y (by omega))
    have hf := h x (by omega)
    have e : ((27 ^ (x + 1) : Nat) : Int) = 27 * ((27 ^ x : Nat) : Int) := by rw [Nat.pow_succ]; omega
    show 0 ≤ 27 * hw f x + f x + 1 ∧ 27 * hw f x + f x + 1 < _
    omega
theorem p27 {x : Nat} (hx : x ≤ 4) : 27 ^ x ≤ 531441 := by
  have := Nat.pow_le_pow_right (show 0 < 27 by decide) hx
  have e : (27 : Nat) ^ 4 = 531441 := by decide
  omega
theorem pu4 {u m : Nat} (hu : u ≤ 4) (hm : m ≤ 4) : u ^ m ≤ 256 := by
  have a := Nat.pow_le_pow_left hu m
  have b := Nat.pow_le_pow_right (show 0 < 4 by decide) hm
  have e : (4 : Nat) ^ 4 = 256 := by decide
  omega
theorem ring1 (A f W c : Int) : (27 * A + f + 1) * W + c = A * (W * 27) + (c + W * (f + 1)) := by grind
section
variable {h : Hp} {P ob n : Int} {G : Gm} {row : Int → Int}
theorem addSentence_ok (s1 : h 18 1 = 19) (s2 : h 18 2 = 20) {m v u idx : Nat} (hm : m ≤ 4) {L : List Cd} (S : MkS h m L) (hl : L.length < 64) (v1 : v < 67108864) (hu : u = (bitsN v).length) (u4 : u ≤ 4) (hum : 0 < u ∨ m = 0) (hi : idx < 256) :
    ∃ h', Ms_addSentence 18 v u m idx h = some h' ∧ MkS h' m (L ++ [sC v u m idx]) ∧ ∀ c s, (c ≠ 18 ∨ s ≠ 0) → c ≠ 19 → c ≠ 20 → h' c s = h c s := by
  have k18 : kK 18 = 5 := by decide
  have fin : ∀ y : Nat, y < m → 0 ≤ wlF v u m idx y ∧ wlF v u m idx y < 26 := fun y hy => (wl_get hu (by omega) (y : Int)).2
  have hwm := hw_in m fin
  have q27 := p27 hm
  obtain ⟨q, e, q1, q2, q3⟩ := loop_ok (body := fun q => Ms_addSentence_L15 18 v u q.1 q.2.1 q.2.2.1 q.2.2.2.1 q.2.2.2.2) (fun s => -1 ≤ s.2.2.2.1 ∧ s.2.2.2.1 < m ∧ s.1 = ((idx / u ^ (m - 1 - s.2.2.2.1).toNat : Nat) : Int) ∧ s.2.2.1 = ((27 ^ (m - 1 - s.2.2.2.1).toNat : Nat) : Int) ∧ (0 ≤ s.2.1 ∧ hw (wlF v u m idx) (s.2.2.2.1 + 1).toNat * s.2.2.1 + s.2.1 = hw (wlF v u m idx) m) ∧ (∀ c k, c ≠ 20 → s.2.2.2.2 c k = h c k) ∧ MkP s.2.2.2.2 m L (wlF v u m idx) (fun i => decide (s.2.2.2.1 < i))) (fun s => (s.2.2.2.1 + 1).toNat) (fun q => q.1 = hw (wlF v u m idx) m ∧ (∀ c k, c ≠ 20 → q.2 c k = h c k) ∧ MkP q.2 m L (wlF v u m idx) (fun i => decide (-1 < i))) (by
    rintro ⟨rest, code, wt, x, f⟩ ⟨x0, x1, hr, hwt, ⟨c0, hc⟩, hF, hS⟩
    simp only at x0 x1 hr hwt c0 hc hF hS
    simp only
    unfold Ms_addSentence_L15 Ms_addSentence_j36 Ms_addSentence_j50
    by_cases hx : x < 0
    · right
      have : x = -1 := by omega
      subst this
      refine ⟨(code, f), by rw [if_pos hx], ?_, hF, hS⟩
      simp only
      rw [show (-1 + 1 : Int).toNat = 0 by decide] at hc
      show code = _
      rw [← hc]
      show code = 0 * wt + code
      omega
    · left
      have u0 : 0 < u := by omega
      have hd : dg u m idx x.toNat < u := Nat.mod_lt _ u0
      obtain ⟨g1, g2, g3⟩ := wl_get (m := m) (idx := idx) hu u0 x
      have ek : (m - 1 - x).toNat = m - 1 - x.toNat := by omega
      have em : w32 (Int.tmod rest u) = ((dg u m idx x.toNat : Nat) : Int) := by
        rw [hr, Int.tmod_eq_emod_of_nonneg (Int.natCast_nonneg _), ek]
        unfold dg at hd ⊢
        rw [← Int.natCast_emod]
        generalize idx / u ^ (m - 1 - x.toNat) % u = z at *
        unfold w32; omega
      have ed : w32 (Int.tdiv rest u) = ((idx / u ^ (m - 1 - (x - 1)).toNat : Nat) : Int) := by
        rw [hr, Int.tdiv_eq_ediv_of_nonneg (Int.natCast_nonneg _), ← Int.natCast_ediv, Nat.div_div_eq_div_mul, ← Nat.pow_succ, show (m - 1 - (x - 1) : Int).toNat = (m - 1 - x).toNat + 1 by omega]
        have := Nat.div_le_self idx (u ^ ((m - 1 - x : Int).toNat + 1))
        generalize idx / u ^ ((m - 1 - x : Int).toNat + 1) = z at *
        unfold w32; omega
      have lo := letterOf_ok (v := v) (k := ((dg u m idx x.toNat : Nat) : Int)) (by omega) (by omega) (Int.natCast_nonneg _) (by omega) (r := (wlF v u m idx x).toNat) (by rw [Int.toNat_natCast, Int.toNat_natCast]; exact g1)
      rw [show (((wlF v u m idx x).toNat : Nat) : Int) = wlF v u m idx x by omega] at lo
      obtain ⟨f2, e2, S2, F2⟩ := Ms_has_ok (h := f) (by rw [hF 18 2 (by decide)]; exact s2) hS hl (by omega) (show 0 ≤ x by omega) x1 g2 g3
      have hk4 : (m - 1 - x : Int).toNat + 1 ≤ 4 := by omega
      have p1 := p27 hk4
      have e27 : ((27 ^ ((m - 1 - x : Int).toNat + 1) : Nat) : Int) = wt * 27 := by rw [hwt, Nat.pow_succ]; exact Int.natCast_mul _ _
      have wpos : 0 < 27 ^ (m - 1 - x : Int).toNat := Nat.pow_pos (by decide)
      have hr1 := ring1 (hw (wlF v u m idx) x.toNat) (wlF v u m idx x) wt code
      have hs : hw (wlF v u m idx) (x + 1).toNat = 27 * hw (wlF v u m idx) x.toNat + wlF v u m idx x + 1 := by
        rw [show (x + 1).toNat = x.toNat + 1 by omega]
        show 27 * hw (wlF v u m idx) x.toNat + wlF v u m idx ((x.toNat : Nat) : Int) + 1 = _
        rw [show ((x.toNat : Nat) : Int) = x by omega]
      rw [hs, hr1] at hc
      have hA := (hw_in (f := wlF v u m idx) x.toNat (fun y hy => fin y (by omega))).1
      have w0 : 0 ≤ wt := by omega
      have t1 := Int.mul_nonneg hA (show 0 ≤ wt * 27 by omega)
      have t2 := Int.mul_nonneg w0 (show 0 ≤ wlF v u m idx x + 1 by omega)
      have t3 := Int.mul_le_mul_of_nonneg_left (show wlF v u m idx x + 1 ≤ 26 by omega) w0
      refine ⟨(((idx / u ^ (m - 1 - (x - 1)).toNat : Nat) : Int), code + wt * (wlF v u m idx x + 1), wt * 27, x - 1, f2), ?_, ⟨by simp only; omega, by simp only; omega, rfl, ?_, ⟨by simp only; omega, ?_⟩, fun c k hck => by simp only; rw [F2 c k hck, hF c k hck], MkP_cg S2 (fun i i0 i1 => ?_)⟩, by simp only; omega⟩
      · rw [if_neg hx, if_neg (by omega), if_pos (by omega), em, lo, ob_some, if_neg (by omega), if_pos (by omega), if_pos k18, e2, ob_some, ed]
        rw [show w32 (wlF v u m idx x + 1) = wlF v u m idx x + 1 by unfold w32; omega, show w32 (wt * (wlF v u m idx x + 1)) = wt * (wlF v u m idx x + 1) by rw [w32_id (by omega) (by omega)], show w32 (code + wt * (wlF v u m idx x + 1)) = code + wt * (wlF v u m idx x + 1) by rw [w32_id (by omega) (by omega)], show w32 (wt * 27) = wt * 27 by rw [w32_id (by omega) (by omega)], show w32 (x + -1) = x - 1 by unfold w32; omega]
      · simp only
        rw [show (m - 1 - (x - 1) : Int).toNat = (m - 1 - x).toNat + 1 by omega]
        exact e27.symm
      · simp only
        rw [show (x - 1 + 1 : Int).toNat = x.toNat by omega]
        exact hc
      · simp only
        by_cases hix : i = x
        · simp [hix, show x - 1 < x by omega]
        · by_cases hj : x < i
          · simp [hj, show x - 1 < i by omega]
          · simp [hix, hj, show ¬ x - 1 < i by omega]) LN ((idx : Int), 0, 1, (m : Int) - 1, h) ⟨by simp only; omega, by simp only; omega, by simp only; rw [show ((m : Int) - 1 - ((m : Int) - 1)).toNat = 0 by omega, Nat.pow_zero, Nat.div_one], by simp only; rw [show ((m : Int) - 1 - ((m : Int) - 1)).toNat = 0 by omega]; rfl, ⟨Int.le_refl _, by simp only; rw [show ((m : Int) - 1 + 1).toNat = m by omega]; omega⟩, fun _ _ _ => rfl, MkP_cg (MkP_any S _) (fun i i0 i1 => by simp only; symm; apply decide_eq_false; omega)⟩ (by unfold LN; simp only; omega)
  obtain ⟨g2, e2, S2, F2⟩ := Ms_close_ok (h := q.2) (by rw [q2 18 1 (by decide)]; exact s1) q3 hl (fun i i0 i1 => decide_eq_true (by omega)) (hw (wlF v u m idx) m)
  refine ⟨g2, ?_, S2, fun c s a b d => by rw [F2 c s a b, q2 c s d]⟩
  unfold Ms_addSentence
  rw [show w32 ((m : Int) - 1) = (m : Int) - 1 by unfold w32; omega, e, ob_some, if_pos k18, q1, e2, ob_some]
end
