/-! tell, tellWay -/
section
variable {G : Gm}
theorem lay_at (W : WF G) : ∀ (d : Dv) (s half node : Int) (st : St), Sh G d half node → 0 ≤ node → node < nN G → (∀ s' : Int, 1 ≤ s' → s' < (st.length : Int) → 0 ≤ (sEnt st s').2.2 ∧ (sEnt st s').2.2 < 12) → ∀ s' : Int, 1 ≤ s' → s' < ((lay G d s node st).length : Int) → 0 ≤ (sEnt (lay G d s node st) s').2.2 ∧ (sEnt (lay G d s node st) s').2.2 < 12
  | .zero, s, half, node, st, H, n0, n1, h, s', a, b => h s' a b
  | .var _, s, half, node, st, H, n0, n1, h, s', a, b => h s' a b
  | .neg d, s, half, node, st, H, n0, n1, h, s', a, b => lay_at W d s 0 node st H.2.2 n0 n1 h s' a b
  | .intMul t d, s, half, node, st, H, n0, n1, h, s', a, b => by
    have r := root_in W H.1.1 H.1.2
    have rl := rel_in W n0 n1
    refine lay_at W d st.length 1 (ft G t) ((t, s, off G node) :: st) H.2.2 r.1 r.2.1 ?_ s' a b
    intro s'' a' b'
    have b2 : s'' < ((st.length + 1 : Nat) : Int) := b'
    show 0 ≤ (if s'' = (st.length : Int) then (t, s, off G node) else sEnt st s'').2.2 ∧ (if s'' = (st.length : Int) then (t, s, off G node) else sEnt st s'').2.2 < 12
    by_cases e : s'' = (st.length : Int)
    · rw [if_pos e]; show 0 ≤ off G node ∧ off G node < 12; unfold off; omega
    · rw [if_neg e]; exact h s'' a' (by omega)
  | .natMul _ d, s, half, node, st, H, n0, n1, h, s', a, b => by
    have c := (ch_in W n0 n1 H.2.1).1
    exact lay_at W d s 1 _ st H.2.2.2 c.2.1 c.2.2.1 h s' a b
  | .add x y, s, half, node, st, H, n0, n1, h, s', a, b => by
    have c := (ch_in W n0 n1 H.2.1).1
    have c' := (ch_in W n0 n1 H.2.1).2 H.2.2.1
    exact lay_at W y s 1 _ _ H.2.2.2.2 c'.2.1 c'.2.2.1 (fun s'' a' b' => lay_at W x s 1 _ st H.2.2.2.1 c.2.1 c.2.2.1 h s'' a' b') s' a b
  | .sub x d, s, half, node, st, H, n0, n1, h, s', a, b => lay_at W d s 0 _ _ H.2.2.2 n0 n1 (fun s'' a' b' => lay_at W x s 2 _ st H.2.2.1 n0 n1 h s'' a' b') s' a b
theorem stW_at (W : WF G) {t : Int} {d : Dv} (t0 : 0 ≤ t) (t1 : t < nT G) (sh : Sh G d 1 (ft G t)) {s : Int} (a : 1 ≤ s) (b : s < ((stW G t d).length : Int)) : 0 ≤ (sEnt (stW G t d) s).2.2 ∧ (sEnt (stW G t d) s).2.2 < 12 :=
  lay_at W d 0 1 (ft G t) [(t, -1, -1)] sh (root_in W t0 t1).1 (root_in W t0 t1).2.1 (fun s' a' b' => by
    have b2 : s' < ((1 : Nat) : Int) := b'
    omega) s a b
end
theorem By_at_T {h : Hp} {o c : Int} {m : Nat} {l : List Int} {i : Nat} {v : Int} (ko : kK o = 0) (kc : kK c = 20) (lc : kL c = (m : Int)) (ho : h o 0 = c) (T : ByT h o c m l) (hi : l[i]? = some v) (hm : i < m) (v0 : 0 ≤ v) (v1 : v < 128) : By_at o (i : Int) h = some v := by
  have hl : i < l.length := by
    by_cases hh : i < l.length
    · exact hh
    · rw [List.getElem?_eq_none (by omega)] at hi
      exact absurd hi (by simp)
  unfold By_at
  rw [if_neg (by omega), if_pos ko, T.1, if_neg (by omega), ho, if_pos kc, lc, if_pos (by omega), if_pos ⟨kc, by omega, by omega⟩, T.2 i v hi hm, and_mod (k := 8) v0 (by omega) 255 (by decide) (by decide)]
  congr 1
  show v % 256 = v
  omega
theorem take_ok {h : Hp} {o c o2 c2 a : Int} {m m2 : Nat} {l : List Int} (ko : kK o = 0) (kc : kK c = 20) (lc : kL c = (m : Int)) (hm : m < 100000) (ko2 : kK o2 = 0) (kc2 : kK c2 = 20) (lc2 : kL c2 = (m2 : Int)) (ho : h o 0 = c) (ho2 : h o2 0 = c2) (n1 : o ≠ c) (n2 : o2 ≠ o) (n3 : o2 ≠ c) (n4 : c2 ≠ o) (n5 : c2 ≠ c) (T : ByT h o2 c2 m2 l) (hl : l.length ≤ m2) (hl2 : l.length < 5000) (hv : ∀ v ∈ l, 0 ≤ v ∧ v < 128 ∧ 0 ≤ v + a ∧ v + a < 128) : ∃ h', By_takeFrom o o2 a h = some h' ∧ ByT h' o c m (l.map (fun v => v + a)) ∧ ∀ x i, (x ≠ o ∨ i ≠ 1) → x ≠ c → h' x i = h x i := by
  unfold By_takeFrom
  rw [if_pos ko]
  simp only
  generalize hf : hput h o 1 0 = f
  have fo : ∀ x i, (x ≠ o ∨ i ≠ 1) → f x i = h x i := by
    intro x i z
    rw [← hf]
    rcases z with z | z
    · exact hput_ne1 z
    · exact hput_ne2 z
  obtain ⟨r, e, p1, p2⟩ := loop_ok (body := fun q => By_takeFrom_L7 o o2 a q.1 q.2) (fun q => 0 ≤ q.1 ∧ q.1 ≤ (l.length : Int) ∧ ByT q.2 o c m ((l.take q.1.toNat).map (fun v => v + a)) ∧ ∀ x i, (x ≠ o ∨ i ≠ 1) → x ≠ c → q.2 x i = h x i) (fun q => ((l.length : Int) - q.1).toNat) (fun r => ByT r o c m (l.map (fun v => v + a)) ∧ ∀ x i, (x ≠ o ∨ i ≠ 1) → x ≠ c → r x i = h x i) (by
    rintro ⟨x, g⟩ ⟨x0, x1, bt, fr⟩
    simp only at x0 x1 bt fr
    show (∃ s', By_takeFrom_L7 o o2 a x g = _ ∧ _) ∨ (∃ r, By_takeFrom_L7 o o2 a x g = _ ∧ _)
    have Tg : ByT g o2 c2 m2 l := ByT_eq (fr o2 1 (Or.inl n2) n3) (fun i => fr c2 i (Or.inl n4) n5) T
    have e1 : g o2 1 = (l.length : Int) := by rw [Tg.1]; omega
    unfold By_takeFrom_L7
    rw [if_pos ko2, e1]
    by_cases hx : (l.length : Int) ≤ x
    · right
      rw [if_pos hx]
      refine ⟨g, rfl, ?_, fr⟩
      rw [List.take_of_length_le (by omega)] at bt
      exact bt
    · left
      obtain ⟨v, hv'⟩ : ∃ v, l[x.toNat]? = some v := ⟨l[x.toNat], List.getElem?_eq_getElem (by omega)⟩
      have vm := hv v (List.mem_of_getElem? hv')
      have ea := By_at_T ko2 kc2 lc2 (by rw [fr o2 0 (Or.inl n2) n3]; exact ho2) Tg hv' (by omega) vm.1 vm.2.1
      rw [show ((x.toNat : Nat) : Int) = x by omega] at ea
      obtain ⟨g', y, t', q'⟩ := By_add_ok (v := v + a) ko kc lc hm (by rw [fr o 0 (Or.inr (by decide)) n1]; exact ho) n1 bt vm.2.2.1 vm.2.2.2
      rw [if_neg hx, ea, ob_some, if_pos ko, show w32 (v + a) = v + a by unfold w32; omega, y, ob_some, show w32 (x + 1) = x + 1 by unfold w32; omega]
      refine ⟨_, rfl, ⟨by simp only; omega, by simp only; omega, ?_, ?_⟩, by simp only; omega⟩
      · simp only
        have ts : l.take (x + 1).toNat = l.take x.toNat ++ [v] := by
          rw [show (x + 1).toNat = x.toNat + 1 by omega, List.take_succ, hv']
          rfl
        rw [ts, List.map_append]
        exact t'
      · intro y' i z1 z2
        simp only
        rw [q' y' i z1 z2, fr y' i z1 z2]) LN (0, f) ⟨Int.le_refl _, by simp only; omega, by
      simp only
      rw [show (0 : Int).toNat = 0 from rfl, List.take_zero]
      exact ⟨by rw [← hf, hput_eq]; rfl, fun i v hi => absurd hi (by simp)⟩, fun x i z1 z2 => fo x i z1⟩ (by unfold LN; simp only; omega)
  rw [e, ob_some]
  exact ⟨r, rfl, p1, p2⟩
/-- a number below 100 -/
def dgt (v : Int) : List Int := if v < 10 then [48 + v] else [48 + v / 10, 48 + v % 10]
theorem dgt_in {v : Int} (v0 : 0 ≤ v) (v1 : v < 100) : ∀ x ∈ dgt v, 0 ≤ x ∧ x < 128 := by
  unfold dgt
  intro x hx
  split at hx
  · have : x = 48 + v := by simpa using hx
    omega
  · have : x = 48 + v / 10 ∨ x = 48 + v % 10 := by simpa using hx
    omega
theorem addNumber_ok {h : Hp} {o c : Int} {m : Nat} {l : List Int} {v : Int} (ko : kK o = 0) (kc : kK c = 20) (lc : kL c = (m : Int)) (hm : m < 100000) (ho : h o 0 = c) (hoc : o ≠ c) (T : ByT h o c m l) (v0 : 0 ≤ v) (v1 : v < 100) : ∃ h', By_addNumber o v h = some h' ∧ ByT h' o c m (l ++ dgt v) ∧ ∀ a i, (a ≠ o ∨ i ≠ 1) → a ≠ c → h' a i = h a i := by
  have em : w32 (48 + w32 (Int.tmod v 10)) = 48 + v % 10 := by
    rw [Int.tmod_eq_emod_of_nonneg v0]
    unfold w32
    omega
  have ed : w32 (48 + w32 (Int.tdiv v 10)) = 48 + v / 10 := by
    rw [Int.tdiv_eq_ediv_of_nonneg v0]
    unfold w32
    omega
  unfold By_addNumber By_addNumber_j17 dgt
  by_cases hv : v < 10
  · obtain ⟨g, x, t, q⟩ := By_add_ok (v := 48 + v % 10) ko kc lc hm ho hoc T (by omega) (by omega)
    rw [if_pos hv, if_pos ko, em, x, ob_some, if_pos hv]
    rw [show 48 + v % 10 = 48 + v by omega] at t
    exact ⟨g, rfl, t, q⟩
  · obtain ⟨g, x, t, q⟩ := By_add_ok (v := 48 + v / 10) ko kc lc hm ho hoc T (by omega) (by omega)
    obtain ⟨g2, x2, t2, q2⟩ := By_add_ok (v := 48 + v % 10) ko kc lc hm (by rw [q o 0 (Or.inr (by decide)) hoc]; exact ho) hoc t (by omega) (by omega)
    rw [if_neg hv, if_pos ko, ed, x, ob_some, em, x2, ob_some, if_neg hv, if_pos ko]
    rw [List.append_assoc] at t2
    exact ⟨g2, rfl, t2, fun a i z1 z2 => by rw [q2 a i z1 z2, q a i z1 z2]⟩
theorem tellsNumber_ok {g : Hp} {l : List Int} {v : Int} (T : TeM g l) (hl : (l.length : Int) + 2 < kL 155) (v0 : 0 ≤ v) (v1 : v < 100) : ∃ g', M_tellsNumber 121 v g = some g' ∧ TeM g' (l ++ dgt v) ∧ TF g g' := by
  have em : w32 (48 + w32 (Int.tmod v 10)) = 48 + v % 10 := by
    rw [Int.tmod_eq_emod_of_nonneg v0]
    unfold w32
    omega
  have ed : w32 (48 + w32 (Int.tmod (w32 (Int.tdiv v 10)) 10)) = 48 + v / 10 := by
    rw [Int.tdiv_eq_ediv_of_nonneg v0, show w32 (v / 10) = v / 10 by unfold w32; omega, Int.tmod_eq_emod_of_nonneg (by omega)]
    unfold w32
    omega
  unfold M_tellsNumber M_tellsNumber_j17 M_tellsNumber_j37 dgt
  rw [if_pos (by omega)]
  by_cases hv : v < 10
  · obtain ⟨g', x, t, q⟩ := M_puts_ok (v := 48 + v % 10) T (by omega) (by omega) (by omega)
    rw [if_pos (by omega), if_pos kK_121, em, x, ob_some, if_pos hv]
    rw [show 48 + v % 10 = 48 + v by omega] at t
    exact ⟨g', rfl, t, q⟩
  · obtain ⟨g', x, t, q⟩ := M_puts_ok (v := 48 + v / 10) T (by omega) (by omega) (by omega)
    obtain ⟨g2, x2, t2, q2⟩ := M_puts_ok (v := 48 + v % 10) t (by rw [List.length_append]; show (((l.length + 1 : Nat)) : Int) < _; omega) (by omega) (by omega)
    rw [if_neg (by omega), if_pos kK_121, ed, x, ob_some, em, if_pos kK_121, x2, ob_some, if_neg hv]
    rw [List.append_assoc] at t2
    exact ⟨g2, rfl, t2, q.tr q2⟩
/-- a step's text; all steps' -/
def sxT (st : St) (s : Int) : List Int := dgt (sEnt st s).1 ++ (if s ≤ 0 then [] else 32 :: dgt (sEnt st s).2.1 ++ 32 :: dgt (sEnt st s).2.2) ++ [59]
def twN (st : St) : Nat → List Int
  | 0 => []
  | k + 1 => twN st k ++ sxT st k
theorem dgt_len (v : Int) : (dgt v).length ≤ 2 := by unfold dgt; split <;> simp
theorem sxT_len (st : St) (s : Int) : (sxT st s).length ≤ 9 := by
  unfold sxT
  have a := dgt_len (sEnt st s).1
  have b := dgt_len (sEnt st s).2.1
  have c := dgt_len (sEnt st s).2.2
  split
  · simp; omega
  · simp; omega
theorem twN_len (st : St) : ∀ k : Nat, (twN st k).length ≤ 9 * k
  | 0 => Nat.le_refl _
  | k + 1 => by
    have := twN_len st k
    have := sxT_len st k
    show (twN st k ++ sxT st k).length ≤ 9 * (k + 1)
    rw [List.length_append]
    omega
