/-! the class: what a chart is to hold, and what it holds on the way -/
abbrev SV : Type := Int → Int → Int → Int → Int → Int → Int
abbrev SD : Type := Int → Int → Int → Int → Int → Int → Bool
def gSum (G : Gm) (ou : Int → Bool) (A : Ag) (S : SV) (D : SD) (l i j a b : Int) : Int := aI A (fun t => if goB G ou t l 1 && D 1 (ft G t) i j a b then aP A t (S 1 (ft G t) i j a b) else 0) 0 (nT G - 1)
abbrev dT : SD := fun _ _ _ _ _ _ => true
def aHosts (G : Gm) (ou : Int → Bool) (A : Ag) (S : SV) (l i j : Int) : Int := aI A (fun t => if goB G ou t l 0 then aP A t (S 1 (ft G t) i j (-1) (-1)) else 0) 0 (nT G - 1)
def aSplit (G : Gm) (A : Ag) (S : SV) (node i j p q : Int) : Int := aI A (fun k => aB A (S 1 (c1 G node) i k (gp (sp G (c1 G node)) p) (gp (sp G (c1 G node)) q)) (S 1 (c2 G node) k j (gp (sp G (c2 G node)) p) (gp (sp G (c2 G node)) q))) (if sp G (c1 G node) = 1 then q else i) (if sp G (c1 G node) = 1 then j else if sp G node = 1 then p else j)
def aRound (G : Gm) (ou : Int → Bool) (A : Ag) (S : SV) (node i j p q : Int) : Int := aI A (fun a => aI A (fun b => aB A (gSum G ou A S dT (lb G node) i j a b) (S 0 node a b p q)) (if p = -1 then a else q) j) i (if p = -1 then j else p)
/-- the equations of the values, for spans within sz letters -/
def AEq (G : Gm) (ou : Int → Bool) (A : Ag) (V : Int → Prop) (sz : Int) (S : SV) : Prop :=
  ∀ half node i j p q, itm G half node i j p q → j ≤ sz →
    V (S half node i j p q) ∧ (cov i j p q < nd G node → S half node i j p q = 0) ∧
    (kd G node = 1 → S half node i j p q = if j = i + 1 then aL A i (lb G node) else 0) ∧
    (kd G node = 2 → S half node i j p q = if i = j then a1 A else 0) ∧
    (kd G node = 3 → S half node i j p q = if p = i ∧ q = j then a1 A else 0) ∧
    (kd G node = 4 → S half node i j p q = aHosts G ou A S (lb G node) i j) ∧
    (kd G node = 0 → half = 0 → c2 G node = -1 → S half node i j p q = S 1 (c1 G node) i j p q) ∧
    (kd G node = 0 → half = 0 → c2 G node ≠ -1 → S half node i j p q = aSplit G A S node i j p q) ∧
    (kd G node = 0 → half = 1 → S half node i j p q = aE A (if mk G node = 2 then 0 else S 0 node i j p q) (if mk G node = 1 then 0 else aRound G ou A S node i j p q))
def cc (p j : Int) : Int := if p = -1 then j else p
/-- row of a label's guests -/
def gRo (x : Int) : Int := ((JI_numberOfTrailingZeros x).getD 0) * 495
def Tab (h : Hp) (o P : Int) (G : Gm) (sz : Int) (ou : Int → Bool) (A : Ag) (S : SV) (D : SD) : Prop :=
  (∀ half node i j p q, itm G half node i j p q → j ≤ sz → tv h o G half node i j (cc p j) (cc q j) = if ou (tr G node) = false ∧ D half node i j p q = true then S half node i j p q else 0) ∧
  (∀ half node i j p q, (half = 0 ∨ half = 1) → 0 ≤ node → node < nN G → sp G node = 0 → 0 ≤ i → i ≤ p → p ≤ q → q ≤ j → j ≤ sz → (p ≠ j ∨ q ≠ j) → tv h o G half node i j p q = 0) ∧
  (∀ t l i j a b, 0 ≤ t → t < nT G → goB G ou t l 1 = true → 0 ≤ i → i ≤ a → a ≤ b → b ≤ j → j ≤ sz → h (o + 16) (gRo (h (P + 13) l) + cI i j a b) = gSum G ou A S D l i j a b)
/-- X comes before Y, as a chart is filled -/
def bef (G : Gm) (node i j p q node' i' j' p' q' : Int) : Prop := cov i j p q < cov i' j' p' q' ∨ (cov i j p q = cov i' j' p' q' ∧ (turn G node < turn G node' ∨ (turn G node = turn G node' ∧ node' < node)))
section
variable {G : Gm} {ou : Int → Bool}
theorem bef_child (W : WF G) {i j p q i' j' p' q' node m : Int} (h0 : 0 ≤ node) (h1 : node < nN G) (h2 : node < m) (h3 : m < ft G (tr G node + 1)) (hn : nd G m = nd G node) (hc : cov i' j' p' q' = cov i j p q) : bef G m i' j' p' q' node i j p q := by
  have := child_in W h0 h1 h2 h3
  right
  refine ⟨hc, Or.inr ⟨?_, h2⟩⟩
  unfold turn
  rw [this.2.2, hn]
theorem bef_around (W : WF G) {node i j p q t a b : Int} (h : itm G 1 node i j p q) (t0 : 0 ≤ t) (t1 : t < nT G) (hs : sp G (ft G t) = 1) (hi : itm G 0 node a b p q) (ho : itm G 1 (ft G t) i j a b) (hc : cov i j p q = cov a b p q + cov i j a b) (r1 : nd G (ft G t) ≤ cov i j a b) (r2 : nd G node ≤ cov a b p q) :
    bef G node a b p q node i j p q ∧ bef G (ft G t) i j a b node i j p q := by
  have h1 := (wf_root W t0 t1).2 hs
  refine ⟨Or.inl (by omega), ?_⟩
  have c0 := (cov_in hi).1
  by_cases hz : cov a b p q = 0
  · have n0 := (wf_nd W h.2.1 h.2.2.1).1
    refine Or.inr ⟨by omega, Or.inl ?_⟩
    have := turn_zero W (n := node) (by omega)
    rw [turn_root W t0 t1, if_neg (by omega)]
    omega
  · exact Or.inl (by omega)
theorem bef_split (W : WF G) {node i j p q i1 j1 p1 q1 i2 j2 p2 q2 : Int} (h : itm G 0 node i j p q) (hk : kd G node = 0) (h2 : c2 G node ≠ -1) (f1 : itm G 1 (c1 G node) i1 j1 p1 q1) (f2 : itm G 1 (c2 G node) i2 j2 p2 q2) (hc : cov i j p q = cov i1 j1 p1 q1 + cov i2 j2 p2 q2) (r1 : nd G (c1 G node) ≤ cov i1 j1 p1 q1) (r2 : nd G (c2 G node) ≤ cov i2 j2 p2 q2) :
    bef G (c1 G node) i1 j1 p1 q1 node i j p q ∧ bef G (c2 G node) i2 j2 p2 q2 node i j p q := by
  have n0 := h.2.1
  have n1 := h.2.2.1
  have hch := wf_ch W n0 n1 hk
  rcases hch.2.2 with qq | qq
  · exact absurd qq h2
  have hnd := (wf_nd W n0 n1).2.2.2.1 hk
  rw [if_neg h2] at hnd
  have c10 := (cov_in f1).1
  have c20 := (cov_in f2).1
  have z1 := (wf_nd W f1.2.1 f1.2.2.1).1
  have z2 := (wf_nd W f2.2.1 f2.2.2.1).1
  refine ⟨?_, ?_⟩
  · by_cases hz : cov i2 j2 p2 q2 = 0
    · exact bef_child W n0 n1 hch.1 hch.2.1 (by omega) (by omega)
    · exact Or.inl (by omega)
  · by_cases hz : cov i1 j1 p1 q1 = 0
    · exact bef_child W n0 n1 (by omega) qq.2 (by omega) (by omega)
    · exact Or.inl (by omega)
theorem bef_unary (W : WF G) {half node i j p q : Int} (h : itm G half node i j p q) (hk : kd G node = 0) (h2 : c2 G node = -1) : bef G (c1 G node) i j p q node i j p q := by
  obtain ⟨hh, n0, n1, i0, ij, j8, d⟩ := h
  have hch := wf_ch W n0 n1 hk
  have hnd := (wf_nd W n0 n1).2.2.2.1 hk
  rw [if_pos h2] at hnd
  exact bef_child W n0 n1 hch.1 hch.2.1 (by omega) rfl
theorem bef_place (W : WF G) {half node i j p q t : Int} (h : itm G half node i j p q) (hk : kd G node = 4) (t0 : 0 ≤ t) (t1 : t < nT G) (hs : sp G (ft G t) = 0) : bef G (ft G t) i j (-1) (-1) node i j p q := by
  obtain ⟨f1, f2, rfl, rfl⟩ := place_item W h hk t0 t1 hs
  refine Or.inr ⟨rfl, Or.inl ?_⟩
  have hpl := wf_place W h.2.1 h.2.2.1 hk
  have hnd := (wf_nd W h.2.1 h.2.2.1).2.2.1 (by omega)
  have : turn G node = 2 := by
    unfold turn
    rw [if_neg (by omega), if_neg (by omega)]
  rw [this, turn_root W t0 t1]
  split <;> omega
theorem goB_mk {t l s : Int} (h1 : sp G (ft G t) = s) (h2 : lb G (ft G t) = l) (h3 : ou t = false) : goB G ou t l s = true := by
  unfold goB
  simp [h1, h2, h3]
end
section
variable {h : Hp} {o P sz : Int} {G : Gm} {ou : Int → Bool} {A : Ag} {V : Int → Prop}
theorem guestRow_ok (E : Ev h o P G sz ou A V) {l : Int} (l0 : 0 ≤ l) (l1 : l < 26) :
    (Ch_guestRow o l h = some (-1) ∧ ∀ t, 0 ≤ t → t < nT G → goB G ou t l 1 = false) ∨ (∃ t, 0 ≤ t ∧ t < nT G ∧ goB G ou t l 1 = true ∧ Ch_guestRow o l h = some (gRo (h (P + 13) l)) ∧ 0 ≤ gRo (h (P + 13) l) ∧ gRo (h (P + 13) l) + 495 ≤ 3960) := by
  obtain ⟨W, R, C, L, S, U⟩ := E
  obtain ⟨k0, k1, k2, k3, k4, k5, k6, k7, k8, k9, k10, k11, k12, k13⟩ := GrO_k R.1
  have c0 := ChO_k C.1
  have nt := wf_nt W
  have hb := R.2.2.2.2.2.2.1 l l0 l1
  have hr := R.2.2.2.2.2.2.2.1 l l0 l1
  have e18 : h P 18 = P + 13 := R.2.1.2.2.2.2.2.2.2.2.2.2.2.2
  have ht : ∀ t, 0 ≤ t → t < 8 → (bit (h (P + 13) l) t = 1 ↔ (t < nT G ∧ sp G (ft G t) = 1 ∧ lb G (ft G t) = l)) := by
    intro t t0 t1
    rw [(hb t t0 t1).2]
    split
    · rename_i hx; simp [hx]
    · rename_i hx; simp [hx]
  unfold Ch_guestRow
  rw [C.2.1, e18, if_pos c0.1, if_pos k0, if_pos ⟨k13.1, l0, by rw [k13.2]; exact l1⟩]
  have an := andnot (x := h (P + 13) l) (y := h o 2) hr.2.2.1 hr.2.2.2 U.2.1 U.2.2
  by_cases hz : i_and (h (P + 13) l) (i_xor (h o 2) (-1)) = 0
  · left
    rw [if_pos hz]
    refine ⟨rfl, fun t t0 t1 => ?_⟩
    have hall := an.1 hz t t0 (by omega)
    cases hg : goB G ou t l 1
    · rfl
    · obtain ⟨g1, g2, g3⟩ := goB_spec hg
      have := hall ((ht t t0 (by omega)).2 ⟨t1, g1, g2⟩)
      rw [U.1 t t0 (by omega), g3] at this
      simp at this
  · right
    have hn : ¬ ∀ t, 0 ≤ t → t < 8 → bit (h (P + 13) l) t = 1 → bit (h o 2) t = 1 := fun hh => hz (an.2 hh)
    have hex : ∃ t, 0 ≤ t ∧ t < 8 ∧ bit (h (P + 13) l) t = 1 ∧ ¬ bit (h o 2) t = 1 := by
      apply Classical.byContradiction
      intro hne
      exact hn (fun t t0 t1 hb1 => Classical.byContradiction (fun hb2 => hne ⟨t, t0, t1, hb1, hb2⟩))
    obtain ⟨t, t0, t1, b1, b2⟩ := hex
    obtain ⟨g0, g1, g2⟩ := (ht t t0 t1).1 b1
    have g3 : ou t = false := by
      rw [U.1 t t0 t1] at b2
      cases ho : ou t
      · rfl
      · rw [ho] at b2; simp at b2
    have xpos : 0 < h (P + 13) l := by
      rcases Int.lt_or_eq_of_le hr.2.2.1 with z | z
      · exact z
      · exfalso
        apply hz
        rw [← z]
        have := (andnot (x := 0) (y := h o 2) (by omega) (by omega) U.2.1 U.2.2).2
        apply this
        intro t t0 t1 hbt
        have : ∀ t : Fin 8, bit 0 (t.val : Int) = 0 := by decide +kernel
        have := this ⟨t.toNat, by omega⟩
        simp only at this
        rw [show ((t.toNat : Nat) : Int) = t by omega] at this
        omega
    obtain ⟨u, u0, u1, eu, -⟩ := ntz_ok xpos hr.2.2.2
    refine ⟨t, t0, g0, goB_mk g1 g2 g3, ?_, ?_⟩
    · rw [if_neg hz, eu, ob_some]
      unfold gRo
      rw [eu]
      simp only [Option.getD_some]
      congr 1
      unfold w32
      omega
    · unfold gRo
      rw [eu]
      simp only [Option.getD_some]
      omega
end
