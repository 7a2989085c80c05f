/-! grammar: the class opens a branch -/
section
variable (tl : Int) (tp : Int → Int)
/-- what stands in a branch that was opened -/
def kdR (f : Nat) (b rl p N : Int) (fo : Bool) (m : Int) : PRs :=
  match gP tl tp f false b rl p (N + 1) fo with
  | .inl e => .inl e
  | .inr (x, p3, fo1) =>
    if tpC tl tp p3 = 41 then .inr (.intMul m x, p3, fo1)
    else
      match gP tl tp f false b rl p3 (N + 1 + szT x) fo1 with
      | .inl e => .inl e
      | .inr (y, p4, fo2) => .inr (.add x (.intMul m y), p4, fo2)
end
section
variable {h h' h'' : Hp} {Q tl T b rl p N c k l : Int} {tp : Int → Int} {fo : Bool} {P A : List Int} {a s : Nat}
theorem gP_kd {f : Nat} (h1 : ¬ isLb (tpC tl tp p) = false) (h2 : ¬ rmN b N = false) : gP tl tp (f + 1) true b rl p N fo = kdR tl tp f b (if N = b then tpC tl tp p - 65 else rl) (mkP tl tp (blA tl tp (p + 1))) N fo (tpC tl tp p - 65 + 26 * mkA tl tp (blA tl tp (p + 1))) := by
  unfold gP
  rw [if_neg h1, if_neg h2]
  rfl
theorem kdR_form {f : Nat} {m : Int} {x : Dv} {q : Int} {fx : Bool} (e : kdR tl tp f b rl p N fo m = .inr (x, q, fx)) : (∃ y, x = .intMul m y ∧ tpC tl tp q = 41) ∨ ∃ y z, x = .add y (.intMul m z) := by
  unfold kdR at e
  cases hx : gP tl tp f false b rl p (N + 1) fo with
  | inl z => rw [hx] at e; exact absurd e (by simp)
  | inr z =>
    obtain ⟨u, p3, fo1⟩ := z
    rw [hx] at e
    simp only at e
    by_cases h3 : tpC tl tp p3 = 41
    · rw [if_pos h3] at e
      injection e with e
      injection e with e1 e2
      injection e2 with e2 e3
      exact Or.inl ⟨u, e1.symm, by rw [← e2]; exact h3⟩
    · rw [if_neg h3] at e
      cases hy : gP tl tp f false b rl p3 (N + 1 + szT u) fo1 with
      | inl z => rw [hy] at e; exact absurd e (by simp)
      | inr z =>
        obtain ⟨w, p4, fo2⟩ := z
        rw [hy] at e
        simp only at e
        injection e with e
        injection e with e1 e2
        exact Or.inr ⟨u, w, e1.symm⟩
theorem CS.mk {v n : Int} (C : CS h Q tl tp T b rl p N fo) : CS (hput h (Q + 5) n v) Q tl tp T b rl p N fo := by
  obtain ⟨E, B, T1, hb, bd, h4, h0, pp, hr⟩ := C
  have q22 := E.2.2.2.2.1.ge
  have fr : CFr Q T h (hput h (Q + 5) n v) := fun c s _ _ _ h4 => hput_ne1 (by omega)
  have e : ∀ j, j ≠ 5 → ∀ i, (hput h (Q + 5) n v) (Q + j) i = h (Q + j) i := fun j hj i => hput_ne1 (by omega)
  have e0 : ∀ i, (hput h (Q + 5) n v) Q i = h Q i := fun i => hput_ne1 (by omega)
  refine ⟨fr.gre E, ⟨?_, ?_⟩, T1, by rw [e 1 (by decide)]; exact hb, bd, by rw [hput_ne1 (by omega)]; exact h4, by rw [hput_ne1 (by omega)]; exact h0, ⟨pp.1, pp.2.1, by rw [hput_ne1 (by omega)]; exact pp.2.2⟩, fun z => by rw [e 4 (by decide), e 10 (by decide)]; exact hr z⟩
  · have B := B.1
    unfold CB at B ⊢
    simp only [e0, e 1 (by decide), e 2 (by decide), e 8 (by decide), e 9 (by decide)]
    exact B
  · have B := B.2
    unfold LB at B ⊢
    simp only [e0, e 3 (by decide), e 4 (by decide)]
    exact B
/-- a branch's row is there -/
theorem CS.op {h1 : Hp} {l : Int} (C : CS h Q tl tp T b rl p N fo) (R : AddR Q T h h1 N c P 0 l 0 0) (N2 : N < b + 12) (hc : (N = b ∧ fo = false) ∨ b < N) : CS h1 Q tl tp T b (if N = b then l else rl) p (N + 1) fo := by
  obtain ⟨E, B, T1, hb, bd, h4, h0, pp, hr⟩ := C
  obtain ⟨w, F, fr, cb, lb, e7⟩ := R
  have q22 := E.2.2.2.2.1.ge
  refine ⟨fr.gre E, ⟨cb, lb⟩, T1, ?_, by omega, by rw [e7]; exact h4, by rw [e7]; exact h0, ⟨pp.1, pp.2.1, by rw [e7]; exact pp.2.2⟩, fun _ => ?_⟩
  · rw [fr (Q + 1) (T - 1) (by omega) (by omega) (by omega) (by omega)]; exact hb
  · rcases hc with ⟨z1, z2⟩ | z
    · rw [if_pos z1, ← z1, z2]
      exact ⟨w.2.2.1, w.2.2.2.2.2.2.2.2⟩
    · rw [if_neg (by omega)]
      obtain ⟨q1, q2, q3, q4, q5⟩ := F b bd.1 z
      rw [q1.2.2.1, q5, if_neg (by omega)]
      exact hr z
theorem opening_ok {po : Int} (C : CS h Q tl tp T b rl po N fo) (hs : tpC tl tp po ≠ -1) (h5 : h 7 5 = c) (hc : (c = -1 ∧ N = b ∧ fo = false) ∨ (0 ≤ c ∧ c < N ∧ b < N)) (hp : blA tl tp (po + 1) = p) : ∃ h', GR_readOpening 7 h = some h' ∧ CFr Q T h h' ∧
    ((∃ v, v ≠ 0 ∧ h' 7 0 = v ∧ h' 7 1 = p ∧ (∃ N', CB h' Q T N') ∧ ∀ f, gP tl tp (f + 1) true b rl p N fo = .inl (v, p)) ∨
     ((65 ≤ tpC tl tp p ∧ tpC tl tp p ≤ 90) ∧ (N < 40 ∧ N - b < 12) ∧ CS h' Q tl tp T b (if N = b then tpC tl tp p - 65 else rl) (mkP tl tp (blA tl tp (p + 1))) (N + 1) fo ∧ h' 7 5 = N ∧ Nw h' Q T N 0 (tpC tl tp p - 65) (mkA tl tp (blA tl tp (p + 1))) c 0 0 ∧ Eff Q h h' N c P 0 0 ∧ p < mkP tl tp (blA tl tp (p + 1)) ∧ ∀ f, gP tl tp (f + 1) true b rl p N fo = kdR tl tp f b (if N = b then tpC tl tp p - 65 else rl) (mkP tl tp (blA tl tp (p + 1))) N fo (tpC tl tp p - 65 + 26 * mkA tl tp (blA tl tp (p + 1))))) := by
  obtain ⟨X, e1, e2, e3, O, G⟩ := C.1
  have q22 := O.ge
  obtain ⟨g0, g1, g2, g3, g4, g5, gr⟩ := GrO_k O
  obtain ⟨go, b1, b2, C1⟩ := C.goOn hs
  rw [hp] at go b1 b2 C1
  have bd := C.2.2.2.2.1
  have po0 := C.2.2.2.2.2.2.2.1
  have z3 : (hput h 7 4 p) 7 3 = Q := by rw [hput_ne2 (by decide)]; exact e3
  have z5 : (hput h 7 4 p) 7 5 = c := by rw [hput_ne2 (by decide)]; exact h5
  unfold GR_readOpening
  rw [if_pos kK_7, go, ob_some, C1.sign, ob_some, gr_label, ob_some]
  by_cases hl : isLb (tpC tl tp p) = false
  · have hl' : ¬ isLb (tpC tl tp p) = true := by rw [hl]; decide
    rw [if_neg hl', if_pos rfl]
    obtain ⟨er, tr⟩ := C1.bad (c := c) (u := c) (cur := c) (P := P) (v := 1) (by decide)
    rw [er, ob_some]
    obtain ⟨a1, a2, a3, a4, a5⟩ := TRes_l' tr
    refine ⟨_, rfl, (CFr.p4 p).tr a5, Or.inl ⟨1, a1, a2, a3, a4, fun f => ?_⟩⟩
    unfold gP
    rw [if_pos hl]
  · have hl' : isLb (tpC tl tp p) = true := by simpa using hl
    have li := lb_in hl'
    rw [if_pos hl', if_neg (by decide), z3, if_pos g0, C1.room, ob_some]
    by_cases hr : rmN b N = false
    · have hr' : ¬ rmN b N = true := by rw [hr]; decide
      rw [if_neg hr', if_pos rfl]
      obtain ⟨er, tr⟩ := C1.bad (c := c) (u := c) (cur := c) (P := P) (v := 3) (by decide)
      rw [er, ob_some]
      obtain ⟨a1, a2, a3, a4, a5⟩ := TRes_l' tr
      refine ⟨_, rfl, (CFr.p4 p).tr a5, Or.inl ⟨3, a1, a2, a3, a4, fun f => ?_⟩⟩
      unfold gP
      rw [if_neg hl, if_pos hr]
    · have hr' : rmN b N = true := by simpa using hr
      have rb : N < 40 ∧ N - b < 12 := by unfold rmN at hr'; simpa using hr'
      have hgP : ∀ f, gP tl tp (f + 1) true b rl p N fo = kdR tl tp f b (if N = b then tpC tl tp p - 65 else rl) (mkP tl tp (blA tl tp (p + 1))) N fo (tpC tl tp p - 65 + 26 * mkA tl tp (blA tl tp (p + 1))) := fun f => gP_kd hl hr
      obtain ⟨h2, ea, R⟩ := add_n (P := P) (k := 0) (l := tpC tl tp p - 65) (c := c) O C1.1.2.2.2.2.2 C1.2.1.1 C1.2.1.2 C1.2.2.1 C1.2.2.2.1 bd.1 bd.2.1 rb.1 (by omega) (by decide)
      have C2 := C1.op R (by omega) (hc.elim (fun z => Or.inl ⟨z.2.1, z.2.2⟩) (fun z => Or.inr z.2.2))
      have C3 := C2.cur (v := N)
      obtain ⟨go3, q0, q1, C4⟩ := C3.goOn (by omega)
      have R0 := R
      obtain ⟨w, F, fr, cb, lb, e7⟩ := R
      rw [if_pos hr', if_neg (by decide), ob_some, z5, show w32 (tpC tl tp p - 65) = tpC tl tp p - 65 by unfold w32; omega, ea, ob_some]
      simp only
      rw [go3, ob_some]
      generalize hq : blA tl tp (p + 1) = q at go3 q0 q1 C4 hgP ⊢
      have w4 := (w.of7 O (Of7.pt 5 N)).of7 O (Of7.pt 4 q)
      have F4 : Eff Q h (hput (hput h2 7 5 N) 7 4 q) N c P 0 0 := ((F.of7l O (Of7.pt 4 p)).of7 O (Of7.pt 5 N)).of7 O (Of7.pt 4 q)
      have fr4 : CFr Q T h (hput (hput h2 7 5 N) 7 4 q) := (((CFr.p4 p).tr fr).tr (CFr.p5 N)).tr (CFr.p4 q)
      have c4 : (hput (hput h2 7 5 N) 7 4 q) 7 5 = N := by rw [hput_ne2 (by decide), hput_eq]
      generalize hput (hput h2 7 5 N) 7 4 q = h4 at C4 w4 F4 fr4 c4
      rw [C4.sign, ob_some, ob_some]
      have d10 : h4 Q 10 = Q + 5 := C4.1.2.2.2.2.2.2.2.2.2.1
      have mark : ∀ v, v = mkA tl tp q → mkA tl tp q ≠ 0 → tpC tl tp q ≠ -1 → (v = if tpC tl tp q = 33 then 1 else 2) → ∃ h', GR_readOpening_j83 7 h4 = some h' ∧ CFr Q T h h' ∧ CS h' Q tl tp T b (if N = b then tpC tl tp p - 65 else rl) (mkP tl tp q) (N + 1) fo ∧ h' 7 5 = N ∧ Nw h' Q T N 0 (tpC tl tp p - 65) (mkA tl tp q) c 0 0 ∧ Eff Q h h' N c P 0 0 ∧ p < mkP tl tp q := by
        intro v hv hz hq' hv2
        have C5 := C4.mk (n := N) (v := v)
        obtain ⟨go5, r0, r1, C6⟩ := C5.goOn hq'
        unfold GR_readOpening_j83 GR_readOpening_j108
        rw [if_pos kK_7, C4.1.2.2.2.1, if_pos g0, C4.sign, ob_some, ← hv2, c4, d10, if_pos (show kK (Q + 5) = 21 ∧ (0 : Int) ≤ N ∧ N < kL (Q + 5) from ⟨g5.1, by omega, by rw [g5.2]; omega⟩)]
        simp only
        rw [if_pos kK_7, go5, ob_some]
        have w5 : Nw (hput h4 (Q + 5) N v) Q T N 0 (tpC tl tp p - 65) v c 0 0 := by
          obtain ⟨w2, w3, w4, w5, w6, w7, w8, w9, w10⟩ := w4
          refine ⟨by rw [hput_ne1 (by omega)]; exact w2, by rw [hput_ne1 (by omega)]; exact w3, by rw [hput_ne1 (by omega)]; exact w4, hput_eq .., by rw [hput_ne1 (by omega)]; exact w6, by rw [hput_ne1 (by omega)]; exact w7, by rw [hput_ne1 (by omega)]; exact w8, by rw [hput_ne1 (by omega)]; exact w9, by rw [hput_ne1 (by omega)]; exact w10⟩
        have F5 : Eff Q h (hput h4 (Q + 5) N v) N c P 0 0 := by
          intro n n0 n1
          have e : ∀ j, (hput h4 (Q + 5) N v) (Q + j) n = h4 (Q + j) n := fun j => hput_ne2 (by omega)
          rw [e 2, e 3, e 4, e 5, e 6, e 7, e 8, e 9, e 10]
          exact F4 n n0 n1
        have hp' : mkP tl tp q = blA tl tp (q + 1) := by unfold mkP; rw [if_neg hz]
        rw [hp', ← hv]
        refine ⟨_, rfl, (fr4.tr (fun c s _ _ _ h4 => hput_ne1 (by omega))).tr (CFr.p4 _), C6, ?_, w5.of7 O (Of7.pt _ _), F5.of7 O (Of7.pt _ _), by omega⟩
        rw [hput_ne2 (by decide), hput_ne1 (by omega)]
        exact c4
      by_cases h33 : tpC tl tp q = 33
      · have hm : mkA tl tp q = 1 := by unfold mkA; rw [if_pos h33]
        rw [if_pos h33]
        obtain ⟨h', e, z1, z⟩ := mark 1 hm.symm (by omega) (by omega) (by rw [if_pos h33])
        exact ⟨h', e, z1, Or.inr ⟨li, rb, z.1, z.2.1, z.2.2.1, z.2.2.2.1, z.2.2.2.2, hgP⟩⟩
      · rw [if_neg h33]
        by_cases h43 : tpC tl tp q = 43
        · have hm : mkA tl tp q = 2 := by unfold mkA; rw [if_neg h33, if_pos h43]
          rw [if_pos h43]
          obtain ⟨h', e, z1, z⟩ := mark 2 hm.symm (by omega) (by omega) (by rw [if_neg h33])
          exact ⟨h', e, z1, Or.inr ⟨li, rb, z.1, z.2.1, z.2.2.1, z.2.2.2.1, z.2.2.2.2, hgP⟩⟩
        · have hm : mkA tl tp q = 0 := by unfold mkA; rw [if_neg h33, if_neg h43]
          have hp' : mkP tl tp q = q := by unfold mkP; rw [if_pos hm]
          rw [if_neg h43]
          rw [hp', hm] at hgP ⊢
          exact ⟨h4, rfl, fr4, Or.inr ⟨li, rb, C4, c4, w4, F4, q0, hgP⟩⟩
end
