/-! arcs: the reference -/
def ArM (g : Hp) (L : Int) (hd inn : Int → Int) : Prop := SShp g ∧ g 121 48 = L ∧ (1 ≤ L ∧ L ≤ 48) ∧ ∀ s, 0 ≤ s → s < L → g 151 s = hd s ∧ g 149 s = inn s ∧ (-1 ≤ hd s ∧ hd s < 1000) ∧ (s = 0 → inn s = -1) ∧ (1 ≤ s → 0 ≤ inn s ∧ inn s < L)
section
variable {g : Hp} {L : Int} {hd inn : Int → Int}
theorem isArc_ok (A : ArM g L hd inn) {s : Int} (s0 : 0 ≤ s) (s1 : s < L) : M_isArc 121 s g = some (arN hd inn s : Int) := by
  obtain ⟨S, e1, ⟨l0, l1⟩, f⟩ := A
  have fs := f s s0 s1
  have y50 : kK 149 = 21 ∧ (0 : Int) ≤ s ∧ s < kL 149 := ⟨by decide, s0, by rw [show kL 149 = 128 by decide]; omega⟩
  have y52 : kK 151 = 21 ∧ (0 : Int) ≤ s ∧ s < kL 151 := ⟨kK_151, s0, by rw [kL_151]; omega⟩
  unfold M_isArc M_isArc_j39 arN
  rw [if_pos kK_121, ss_at S (show ((50 : Int), (149 : Int)) ∈ ssL by decide), if_pos y50, fs.2.1, ss_at S (show ((52 : Int), (151 : Int)) ∈ ssL by decide), if_pos y52, fs.1]
  by_cases hs : s = 0
  · rw [if_pos (fs.2.2.2.1 hs), if_neg (by omega)]; rfl
  · have ii := fs.2.2.2.2 (by omega)
    have fi := f (inn s) ii.1 ii.2
    rw [if_neg (by omega), if_pos (show kK 151 = 21 ∧ (0 : Int) ≤ inn s ∧ inn s < kL 151 from ⟨kK_151, ii.1, by rw [kL_151]; omega⟩), fi.1]
    by_cases h1 : hd s = -1
    · rw [if_pos h1, if_neg (by omega)]; rfl
    · rw [if_neg h1]
      by_cases h2 : hd (inn s) = -1
      · rw [if_pos h2, if_neg (by omega)]; rfl
      · rw [if_neg h2, if_pos ⟨by omega, h1, h2⟩]; rfl
theorem lowOf_ok (A : ArM g L hd inn) {s : Int} (s0 : 1 ≤ s) (s1 : s < L) : M_lowOf 121 s g = some (aLo hd inn s) ∧ M_highOf 121 s g = some (aHi hd inn s) := by
  obtain ⟨S, e1, ⟨l0, l1⟩, f⟩ := A
  have fs := f s (by omega) s1
  have ii := fs.2.2.2.2 s0
  have fi := f (inn s) ii.1 ii.2
  have y50 : kK 149 = 21 ∧ (0 : Int) ≤ s ∧ s < kL 149 := ⟨by decide, by omega, by rw [show kL 149 = 128 by decide]; omega⟩
  have y52 : kK 151 = 21 ∧ (0 : Int) ≤ s ∧ s < kL 151 := ⟨kK_151, by omega, by rw [kL_151]; omega⟩
  have yi : kK 151 = 21 ∧ (0 : Int) ≤ inn s ∧ inn s < kL 151 := ⟨kK_151, ii.1, by rw [kL_151]; omega⟩
  unfold M_lowOf M_highOf
  rw [if_pos kK_121, ss_at S (show ((52 : Int), (151 : Int)) ∈ ssL by decide), if_pos y52, ss_at S (show ((50 : Int), (149 : Int)) ∈ ssL by decide), if_pos y50, fs.2.1, if_pos yi, fs.1, fi.1, if_pos kK_121, if_pos y52, if_pos y50, if_pos yi]
  exact ⟨rfl, rfl⟩
theorem isBetween_ok (A : ArM g L hd inn) {s x : Int} (s0 : 1 ≤ s) (s1 : s < L) : M_isBetween 121 x s g = some (if aLo hd inn s < x ∧ x < aHi hd inn s then 1 else 0) := by
  have l := lowOf_ok A s0 s1
  unfold M_isBetween M_isBetween_j22
  rw [if_pos kK_121, l.1, ob_some, l.2, ob_some]
  by_cases h1 : x ≤ aLo hd inn s
  · rw [if_pos h1, if_neg (by omega)]
  · rw [if_neg h1]
    by_cases h2 : aHi hd inn s ≤ x
    · rw [if_pos h2, if_neg (by omega)]
    · rw [if_neg h2, if_pos (by omega)]
theorem doCross_ok (A : ArM g L hd inn) {a b : Int} (a0 : 1 ≤ a) (a1 : a < L) (b0 : 1 ≤ b) (b1 : b < L) : M_doCross 121 a b g = some (axN hd inn a b : Int) := by
  have la := lowOf_ok A a0 a1
  have lb := lowOf_ok A b0 b1
  have h1 : aLo hd inn a ≤ aHi hd inn a := by unfold aLo aHi; omega
  have h2 : aLo hd inn b ≤ aHi hd inn b := by unfold aLo aHi; omega
  unfold M_doCross axN
  rw [if_pos kK_121]
  simp only [la.1, la.2, lb.1, lb.2, ob_some, isBetween_ok A b0 b1]
  generalize aLo hd inn a = p at *
  generalize aHi hd inn a = q at *
  generalize aLo hd inn b = r at *
  generalize aHi hd inn b = s at *
  by_cases c1 : p = r
  · rw [if_pos c1, if_neg (by omega)]; rfl
  rw [if_neg c1]
  by_cases c2 : p = s
  · rw [if_pos c2, if_neg (by omega)]; rfl
  rw [if_neg c2]
  by_cases c3 : q = r
  · rw [if_pos c3, if_neg (by omega)]; rfl
  rw [if_neg c3]
  by_cases c4 : q = s
  · rw [if_pos c4, if_neg (by omega)]; rfl
  rw [if_neg c4]
  by_cases c5 : r < p ∧ p < s
  · rw [if_pos c5]
    by_cases c6 : r < q ∧ q < s
    · rw [if_pos c6, if_pos rfl, if_neg (by omega)]; rfl
    · rw [if_neg c6, if_neg (by decide), if_pos (by omega)]; rfl
  · rw [if_neg c5]
    by_cases c6 : r < q ∧ q < s
    · rw [if_pos c6, if_neg (by decide), if_pos (by omega)]; rfl
    · rw [if_neg c6, if_pos rfl, if_neg (by omega)]; rfl
theorem M_arcs_loop (A : ArM g L hd inn) (d : Nat) (l3 : Int) : loopN (fun q => M_arcs_L42 d 121 l3 g q.1 q.2.1 q.2.2.1 q.2.2.2) LN (0, 0, 0, 0) = some (((sI (arN hd inn) 1 (L - 1) : Nat) : Int), ((sI (fun a => sI (fun b => apN hd inn a b) 1 (L - 1)) 1 (L - 1) : Nat) : Int), amxN (alN hd inn) 1 (L - 1).toNat) := by
  have A' := A
  obtain ⟨S, e1, ⟨l0, l1⟩, f⟩ := A
  have arc0 : arN hd inn 0 = 0 := by unfold arN; rw [if_neg (by omega)]
  have mn : ∀ k : Nat, 0 ≤ amxN (alN hd inn) 1 k := by
    intro k
    induction k with
    | zero => exact Int.le_refl _
    | succ k ih => show 0 ≤ max (amxN (alN hd inn) 1 k) _; omega
  obtain ⟨r, e, p⟩ := loop_ok (body := fun q => M_arcs_L42 d 121 l3 g q.1 q.2.1 q.2.2.1 q.2.2.2) (fun q => 0 ≤ q.2.2.2 ∧ q.2.2.2 ≤ L ∧ q.1 = ((sI (arN hd inn) 1 (q.2.2.2 - 1) : Nat) : Int) ∧ q.2.1 = ((sI (fun b => sI (fun a => apN hd inn a b) 1 (L - 1)) 1 (q.2.2.2 - 1) : Nat) : Int) ∧ q.2.2.1 = amxN (alN hd inn) 1 (q.2.2.2 - 1).toNat) (fun q => (L - q.2.2.2).toNat) (fun r => r = (((sI (arN hd inn) 1 (L - 1) : Nat) : Int), ((sI (fun b => sI (fun a => apN hd inn a b) 1 (L - 1)) 1 (L - 1) : Nat) : Int), amxN (alN hd inn) 1 (L - 1).toNat)) (by
    rintro ⟨p1, p2, p3, x⟩ ⟨x0, x1, h1, h2, h3⟩
    simp only at x0 x1 h1 h2 h3
    subst h1 h2 h3
    show (∃ s', M_arcs_L42 d 121 l3 g _ _ _ x = _ ∧ _) ∨ (∃ r, M_arcs_L42 d 121 l3 g _ _ _ x = _ ∧ _)
    unfold M_arcs_L42 M_arcs_j132
    by_cases hx : L ≤ x
    · right
      have : x = L := by omega
      subst this
      rw [if_pos kK_121, e1, if_pos (Int.le_refl _)]
      exact ⟨_, rfl, rfl⟩
    · left
      have b1 := sI_bd (f := arN hd inn) (lo := 1) (hi := x - 1) (b := 1) (fun y => by have := arN_01 (hd := hd) (inn := inn) y; omega) (by omega)
      have bi : ∀ y, sI (fun a => apN hd inn a y) 1 (L - 1) ≤ 48 := fun y => by
        have := sN_bd (f := fun a => apN hd inn a y) (lo := 1) (b := 1) (fun z => apN_le' z y) (L - 1 + 1 - 1).toNat
        show sN _ 1 (L - 1 + 1 - 1).toNat ≤ 48
        omega
      have b2 := sI_bd (f := fun b => sI (fun a => apN hd inn a b) 1 (L - 1)) (lo := 1) (hi := x - 1) (b := 48) bi (by omega)
      rw [if_pos kK_121, e1, if_neg hx, isArc_ok A' x0 (by omega), ob_some, show w32 (x + 1) = x + 1 by unfold w32; omega]
      rcases arN_01 (hd := hd) (inn := inn) x with z | z
      · rw [z, if_pos (by decide)]
        refine ⟨_, rfl, ⟨by simp only; omega, by simp only; omega, ?_, ?_, ?_⟩, by simp only; omega⟩
        · simp only
          rw [show x + 1 - 1 = x by omega]
          by_cases h0 : x = 0
          · subst h0; rw [sI_none (by omega), sI_none (by omega)]
          · rw [sI_1 (f := arN hd inn) (show 1 ≤ x by omega), z]; rfl
        · simp only
          rw [show x + 1 - 1 = x by omega]
          by_cases h0 : x = 0
          · subst h0; rw [sI_none (by omega), sI_none (by omega)]
          · rw [sI_1 (f := fun b => sI (fun a => apN hd inn a b) 1 (L - 1)) (show 1 ≤ x by omega)]
            have : sI (fun a => apN hd inn a x) 1 (L - 1) = 0 := sI_0 (fun y _ _ => by show apN hd inn y x = 0; unfold apN; rw [z, Nat.zero_mul, Nat.mul_zero]; simp)
            simp only [this]
            rfl
        · simp only
          rw [show x + 1 - 1 = x by omega]
          by_cases h0 : x = 0
          · subst h0; rfl
          · obtain ⟨m, hm⟩ : ∃ m : Nat, x.toNat = m + 1 := ⟨(x - 1).toNat, by omega⟩
            rw [hm, show (x - 1).toNat = m by omega]
            show _ = max (amxN (alN hd inn) 1 m) (alN hd inn (1 + (m : Int)))
            have lz : alN hd inn (1 + (m : Int)) = 0 := by unfold alN; rw [show (1 : Int) + (m : Int) = x by omega, if_neg (by omega)]
            rw [lz]
            have := mn m
            omega
      · have xp : 1 ≤ x := by
          by_cases h0 : x = 0
          · rw [h0, arc0] at z; omega
          · omega
        have lx := lowOf_ok A' xp (show x < L by omega)
        have inner := acc2 (body := fun q => M_arcs_L89 d 121 l3 (w32 (((sI (arN hd inn) 1 (x - 1) : Nat) : Int) + 1)) (max (amxN (alN hd inn) 1 (x - 1).toNat) (w32 (aHi hd inn x - aLo hd inn x))) x g q.1 q.2) (f := fun y => arN hd inn y * axN hd inn y x) (lo := 0) (hi := x - 1) (A := sI (fun b => sI (fun a => apN hd inn a b) 1 (L - 1)) 1 (x - 1)) (b := 1) (by omega) (by omega) (fun y => by
          rcases arN_01 (hd := hd) (inn := inn) y with v | v <;> rcases axN_01 (hd := hd) (inn := inn) y x with u | u <;> rw [v, u] <;> decide) (by
          intro ac y y0 y1 hb
          show M_arcs_L89 d 121 l3 _ _ x g ac y = _
          unfold M_arcs_L89 M_arcs_j122 M_arcs_j123
          rw [if_neg (by omega), if_pos kK_121, isArc_ok A' y0 (by omega), ob_some, show w32 (y + 1) = y + 1 by unfold w32; omega, show w32 ((ac : Int) + 0) = ac by unfold w32; omega, show w32 ((ac : Int) + 1) = ac + 1 by unfold w32; omega]
          rcases arN_01 (hd := hd) (inn := inn) y with v | v
          · rw [v, if_pos (by decide), Nat.zero_mul]; rfl
          · have yp : 1 ≤ y := by
              by_cases h0 : y = 0
              · rw [h0, arc0] at v; omega
              · omega
            rw [v, if_neg (by decide), doCross_ok A' xp (by omega) yp (by omega), ob_some, axN_sym x y]
            rcases axN_01 (hd := hd) (inn := inn) y x with u | u
            · rw [u, if_pos (by decide)]; rfl
            · rw [u, if_neg (by decide)]; rfl) (by
          intro ac
          show M_arcs_L89 d 121 l3 _ _ x g ac (x - 1 + 1) = _
          unfold M_arcs_L89
          rw [if_pos (by omega)])
        rw [z, if_neg (by decide), lx.2, ob_some, lx.1, ob_some, inner, ob_some]
        refine ⟨_, rfl, ⟨by simp only; omega, by simp only; omega, ?_, ?_, ?_⟩, by simp only; omega⟩
        · simp only
          rw [show x + 1 - 1 = x by omega, sI_1 (f := arN hd inn) xp, z, show w32 (((sI (arN hd inn) 1 (x - 1) : Nat) : Int) + 1) = ((sI (arN hd inn) 1 (x - 1) + 1 : Nat) : Int) by unfold w32; omega]
        · simp only
          rw [show x + 1 - 1 = x by omega, sI_1 (f := fun b => sI (fun a => apN hd inn a b) 1 (L - 1)) xp]
          have : sI (fun a => apN hd inn a x) 1 (L - 1) = sI (fun y => arN hd inn y * axN hd inn y x) 0 (x - 1) := by
            rw [sI_sub (f := fun a => apN hd inn a x) (a := 1) (b := L - 1) (c := 1) (d := x - 1) (Int.le_refl _) (by omega) (by omega) (fun y y0 y1 hy => by show apN hd inn y x = 0; unfold apN; rw [if_neg (by omega)])]
            rw [sI_sub (f := fun y => arN hd inn y * axN hd inn y x) (a := 0) (b := x - 1) (c := 1) (d := x - 1) (by omega) (Int.le_refl _) (by omega) (fun y y0 y1 hy => by show arN hd inn y * axN hd inn y x = 0; rw [show y = 0 by omega, arc0, Nat.zero_mul])]
            exact sI_congr (fun y y0 y1 => by show apN hd inn y x = _; unfold apN; rw [if_pos (by omega), z, Nat.one_mul])
          simp only [this]
        · simp only
          obtain ⟨m, hm⟩ : ∃ m : Nat, (x + 1 - 1).toNat = m + 1 := ⟨(x - 1).toNat, by omega⟩
          rw [hm, show (x - 1).toNat = m by omega]
          show _ = max (amxN (alN hd inn) 1 m) (alN hd inn (1 + (m : Int)))
          have fs := f x x0 (by omega)
          have ii := fs.2.2.2.2 xp
          have fi := f (inn x) ii.1 ii.2
          have q1 := fs.2.2.1
          have q2 := fi.2.2.1
          have lz : alN hd inn (1 + (m : Int)) = aHi hd inn x - aLo hd inn x := by unfold alN; rw [show (1 : Int) + (m : Int) = x by omega, if_pos z]
          have ew : w32 (aHi hd inn x - aLo hd inn x) = aHi hd inn x - aLo hd inn x := by
            unfold aHi aLo w32
            omega
          rw [lz, ew]) LN (0, 0, 0, 0) ⟨Int.le_refl _, by simp only; omega, by simp only; rw [sI_none (by omega)]; rfl, by simp only; rw [sI_none (by omega)]; rfl, rfl⟩ (by unfold LN; simp only; omega)
  rw [e, p, sI_swap]
end
