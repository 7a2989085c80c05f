/-! the letters of a tree in their order; what laying leaves of letters and heads -/
def yl (G : Gm) : Dv → Int → Int → List (Int × Int) → Int → List (Int × Int)
  | .zero, s, node, F, _ => if kd G node = 1 then [(s, off G node)] else if kd G node = 3 then F else []
  | .var _, _, _, _, _ => []
  | .neg d, s, node, F, N => yl G d s node F N
  | .intMul t d, _, _, F, N => yl G d N (ft G t) F (N + 1)
  | .natMul _ d, s, node, F, N => yl G d s (c1 G node) F N
  | .add x y, s, node, F, N => yl G x s (c1 G node) F N ++ yl G y s (c2 G node) F (N + dst x)
  | .sub x d, s, node, F, N => yl G x s node (yl G d s node F (N + dst x)) N
def Ents (fs fo : Int → Int) (i j : Int) : List (Int × Int) := (List.range (j - i).toNat).map (fun (n : Nat) => (fs (i + n), fo (i + n)))
theorem Ents_0 {fs fo : Int → Int} {i : Int} : Ents fs fo i i = [] := by
  unfold Ents
  rw [show (i - i).toNat = 0 by omega]
  rfl
theorem Ents_1 {fs fo : Int → Int} {i : Int} : Ents fs fo i (i + 1) = [(fs i, fo i)] := by
  unfold Ents
  rw [show (i + 1 - i).toNat = 1 by omega]
  show [(fs (i + ((0 : Nat) : Int)), fo (i + ((0 : Nat) : Int)))] = _
  rw [show i + ((0 : Nat) : Int) = i by omega]
theorem Ents_app {fs fo : Int → Int} {i m j : Int} (h1 : i ≤ m) (h2 : m ≤ j) : Ents fs fo i m ++ Ents fs fo m j = Ents fs fo i j := by
  unfold Ents
  rw [show (j - i).toNat = (m - i).toNat + (j - m).toNat by omega, List.range_add, List.map_append, List.map_map]
  congr 1
  apply List.map_congr_left
  intro n _
  show _ = (fs (i + (((m - i).toNat + n : Nat) : Int)), fo (i + (((m - i).toNat + n : Nat) : Int)))
  rw [show i + (((m - i).toNat + n : Nat) : Int) = m + n by omega]
theorem Ents_len {fs fo : Int → Int} {i j : Int} : (Ents fs fo i j).length = (j - i).toNat := by
  unfold Ents
  rw [List.length_map, List.length_range]
theorem Ents_congr {fs fo fs' fo' : Int → Int} {i j : Int} (h : ∀ n, i ≤ n → n < j → fs n = fs' n ∧ fo n = fo' n) : Ents fs fo i j = Ents fs' fo' i j := by
  unfold Ents
  apply List.map_congr_left
  intro n hn
  have := List.mem_range.mp hn
  have := h (i + n) (by omega) (by omega)
  rw [this.1, this.2]
/-- a place that an item covers -/
def Wr (i j p q n : Int) : Prop := (p = -1 ∧ i ≤ n ∧ n < j) ∨ (p ≠ -1 ∧ ((i ≤ n ∧ n < p) ∨ (q ≤ n ∧ n < j)))
section
variable {G : Gm}
/-- without a foot below it doesn't matter what would be there -/
theorem yl_nofoot (W : WF G) : ∀ (d : Dv) (s half node : Int) (F F' : List (Int × Int)) (N : Int), Sh G d half node → 0 ≤ node → node < nN G → (half ≠ 2 → sp G node = 0) → (half = 2 → F = F') → yl G d s node F N = yl G d s node F' N
  | .zero, s, half, node, F, F', N, H, n0, n1, hs, h2 => by
    have k3 : kd G node ≠ 3 := fun z => by
      have := (wf_sp W n0 n1).2.1 z
      have := hs (by have := H.1; omega)
      omega
    show (if kd G node = 1 then [(s, off G node)] else if kd G node = 3 then F else []) = (if kd G node = 1 then [(s, off G node)] else if kd G node = 3 then F' else [])
    rw [if_neg k3, if_neg k3]
  | .var _, s, half, node, F, F', N, H, n0, n1, hs, h2 => False.elim H
  | .neg d, s, half, node, F, F', N, H, n0, n1, hs, h2 => by
    obtain ⟨rfl, k0, H'⟩ := H
    exact yl_nofoot W d s 0 node F F' N H' n0 n1 (fun _ => hs (by decide)) (fun z => absurd z (by decide))
  | .intMul t d, s, half, node, F, F', N, H, n0, n1, hs, h2 => by
    obtain ⟨⟨t0, t1⟩, h4, H'⟩ := H
    have r := root_in W t0 t1
    by_cases hh : half = 2
    · rw [h2 hh]
    · exact yl_nofoot W d N 1 (ft G t) F F' (N + 1) H' r.1 r.2.1 (fun _ => (h4 hh).2.2) (fun z => absurd z (by decide))
  | .natMul m d, s, half, node, F, F', N, H, n0, n1, hs, h2 => by
    obtain ⟨rfl, k0, c2', H'⟩ := H
    have c := (ch_in W n0 n1 k0).1
    have ss := (wf_sp W n0 n1).2.2.2 k0
    rw [if_pos c2'] at ss
    have z := hs (by decide)
    exact yl_nofoot W d s 1 (c1 G node) F F' N H' c.2.1 c.2.2.1 (fun _ => by omega) (fun z => absurd z (by decide))
  | .add x y, s, half, node, F, F', N, H, n0, n1, hs, h2 => by
    obtain ⟨rfl, k0, c2', Hx, Hy⟩ := H
    have c := (ch_in W n0 n1 k0).1
    have c' := (ch_in W n0 n1 k0).2 c2'
    have ss := (wf_sp W n0 n1).2.2.2 k0
    rw [if_neg c2'] at ss
    have z := hs (by decide)
    have s1 := (wf_sp W c.2.1 c.2.2.1).1
    have s2 := (wf_sp W c'.2.1 c'.2.2.1).1
    show yl G x s (c1 G node) F N ++ yl G y s (c2 G node) F (N + dst x) = yl G x s (c1 G node) F' N ++ yl G y s (c2 G node) F' (N + dst x)
    rw [yl_nofoot W x s 1 (c1 G node) F F' N Hx c.2.1 c.2.2.1 (fun _ => by omega) (fun z => absurd z (by decide)), yl_nofoot W y s 1 (c2 G node) F F' _ Hy c'.2.1 c'.2.2.1 (fun _ => by omega) (fun z => absurd z (by decide))]
  | .sub x d, s, half, node, F, F', N, H, n0, n1, hs, h2 => by
    obtain ⟨rfl, k0, Hx, Hd⟩ := H
    show yl G x s node (yl G d s node F (N + dst x)) N = yl G x s node (yl G d s node F' (N + dst x)) N
    rw [yl_nofoot W d s 0 node F F' _ Hd n0 n1 (fun _ => hs (by decide)) (fun z => absurd z (by decide))]
end
/-- letters and heads: those in W are laid, the others as they were -/
def LK (h h' : Hp) (st st' : St) (Wp : Int → Prop) : Prop := F5 h h' ∧ (∀ n, ¬ Wp n → h' 153 n = h 153 n ∧ h' 154 n = h 154 n) ∧ (∀ n, Wp n → 0 ≤ h' 153 n ∧ h' 153 n < (st'.length : Int)) ∧ st.length ≤ st'.length ∧ (∀ s : Int, s < (st.length : Int) → sEnt st' s = sEnt st s) ∧
  ∀ s : Int, 0 ≤ s → s < (st'.length : Int) → (h' 151 s = (if s < (st.length : Int) then h 151 s else -1) ∧ ∀ n, Wp n → ¬ (h' 153 n = s ∧ h' 154 n = h 133 (sEnt st' s).1)) ∨ ∃ n, Wp n ∧ h' 153 n = s ∧ h' 154 n = h 133 (sEnt st' s).1 ∧ h' 151 s = n
theorem F5.c133 {h h' : Hp} (F : F5 h h') (n : Int) : h' 133 n = h 133 n := F 133 n (Or.inl (by decide)) (by decide) (by decide) (by decide) (by decide) (by decide) (by decide) (by decide) (by decide)
theorem LK_tr {h h1 h2 : Hp} {st st1 st2 : St} {W1 W2 W3 : Int → Prop} (a : LK h h1 st st1 W1) (b : LK h1 h2 st1 st2 W2) (hd : ∀ n, W1 n → ¬ W2 n) (hw : ∀ n, W3 n ↔ W1 n ∨ W2 n) : LK h h2 st st2 W3 := by
  obtain ⟨a1, a2, a3, a4, a5, a6⟩ := a
  obtain ⟨b1, b2, b3, b4, b5, b6⟩ := b
  refine ⟨a1.tr b1, ?_, ?_, by omega, ?_, ?_⟩
  · intro n hn
    have x1 : ¬ W1 n := fun z => hn ((hw n).mpr (Or.inl z))
    have x2 : ¬ W2 n := fun z => hn ((hw n).mpr (Or.inr z))
    rw [(b2 n x2).1, (b2 n x2).2]
    exact a2 n x1
  · intro n hn
    rcases (hw n).mp hn with z | z
    · rw [(b2 n (hd n z)).1]
      have := a3 n z
      omega
    · exact b3 n z
  · intro s hs
    rw [b5 s (by omega), a5 s hs]
  · intro s s0 s1
    rcases b6 s s0 s1 with ⟨p1, p2⟩ | ⟨n, p1, p2, p3, p4⟩
    · by_cases hl : s < (st1.length : Int)
      · rw [if_pos hl] at p1
        rcases a6 s s0 hl with ⟨q1, q2⟩ | ⟨n, q1, q2, q3, q4⟩
        · left
          refine ⟨by rw [p1, q1], ?_⟩
          intro n hn
          rcases (hw n).mp hn with z | z
          · rw [(b2 n (hd n z)).1, (b2 n (hd n z)).2, b5 s hl]
            exact q2 n z
          · rw [← F5.c133 a1]
            exact p2 n z
        · right
          refine ⟨n, (hw n).mpr (Or.inl q1), ?_, ?_, by rw [p1, q4]⟩
          · rw [(b2 n (hd n q1)).1]; exact q2
          · rw [(b2 n (hd n q1)).2, b5 s hl]; exact q3
      · rw [if_neg hl] at p1
        left
        refine ⟨by rw [p1, if_neg (by omega)], ?_⟩
        intro n hn
        rcases (hw n).mp hn with z | z
        · rw [(b2 n (hd n z)).1]
          have := a3 n z
          intro w
          omega
        · rw [← F5.c133 a1]
          exact p2 n z
    · right
      exact ⟨n, (hw n).mpr (Or.inr p1), p2, by rw [← F5.c133 a1]; exact p3, p4⟩
/-- a loop that takes terms off -/
theorem walk_loop {R : Type} {body : Int × Int × Hp → Option ((Int × Int × Hp) ⊕ R)} {f : Int → Nat} {lo y1 : Int} {k : Nat} (J : Hp → Prop) (Q : R → Prop) {h : Hp} (j0 : J h) (hN : y1 - lo < 1000) (hy : lo ≤ y1) (hk : sI f lo (y1 - 1) ≤ k)
    (step : ∀ (y : Int) (κ : Nat) (g : Hp), lo ≤ y → y < y1 → J g → f y ≤ κ → κ ≤ k → ∃ g', body ((κ : Int), y, g) = some (.inl (((κ - f y : Nat) : Int), y + 1, g')) ∧ J g')
    (stop : ∀ g, J g → ∃ r, body (((k - sI f lo (y1 - 1) : Nat) : Int), y1, g) = some (.inr r) ∧ Q r) : ∃ r, loopN body LN ((k : Int), lo, h) = some r ∧ Q r := by
  obtain ⟨r, e, p⟩ := loop_ok (body := body) (fun s => lo ≤ s.2.1 ∧ s.2.1 ≤ y1 ∧ J s.2.2 ∧ s.1 = ((k - sI f lo (s.2.1 - 1) : Nat) : Int)) (fun s => (y1 - s.2.1).toNat) Q (by
    rintro ⟨x, y, g⟩ ⟨y0, y2, jg, hx⟩
    simp only at y0 y2 jg hx
    subst hx
    by_cases hl : y < y1
    · left
      have e1 := sI_1 (f := f) y0
      have e2 := sI_mono (f := f) (lo := lo) (show y ≤ y1 - 1 by omega)
      obtain ⟨g', x1, j1⟩ := step y (k - sI f lo (y - 1)) g y0 hl jg (by omega) (by omega)
      refine ⟨_, x1, ⟨by simp only; omega, by simp only; omega, j1, ?_⟩, by simp only; omega⟩
      simp only
      rw [show y + 1 - 1 = y by omega, e1]
      omega
    · right
      have hy' : y = y1 := by omega
      subst hy'
      exact stop g jg) LN ((k : Int), lo, h) ⟨Int.le_refl _, hy, j0, by
      simp only
      have : sI f lo (lo - 1) = 0 := by
        unfold sI
        rw [show (lo - 1 + 1 - lo).toNat = 0 by omega]
        rfl
      rw [this]
      omega⟩ (by unfold LN; simp only; omega)
  exact ⟨r, e, p⟩
