/-! grammar: the class's reading, one turn -/
def Of7 (h h' : Hp) : Prop := ∀ x s, x ≠ 7 → h' x s = h x s
def CS (h : Hp) (Q tl : Int) (tp : Int → Int) (T b rl p N : Int) (fo : Bool) : Prop := GrE h Q tl tp ∧ (CB h Q T N ∧ LB h Q N) ∧ 1 ≤ T ∧ h (Q + 1) (T - 1) = b ∧ (0 ≤ b ∧ b ≤ N ∧ N ≤ b + 12) ∧ h 7 4 = p ∧ h 7 0 = 0 ∧ (0 ≤ p ∧ p ≤ tl ∧ h 7 1 = -1) ∧ (b < N → h (Q + 4) b = rl ∧ h (Q + 10) b = if fo = true then 1 else 0)
def rfX (h : Hp) (c : Int) : Hp := hput (hput h 7 0 c) 7 1 (h 7 4)
section
variable {h h' h'' : Hp} {Q tl T b rl p N c k l : Int} {tp : Int → Int} {fo : Bool} {P : List Int} {a s : Nat}
theorem GrO.ge (O : GrO Q) : 22 ≤ Q := by rcases O with rfl | rfl | rfl | rfl <;> decide
theorem CFr.rf : CFr Q T h h := fun _ _ _ _ _ _ => rfl
theorem CFr.tr (x : CFr Q T h h') (y : CFr Q T h' h'') : CFr Q T h h'' := fun c s h1 h2 h3 h4 => by rw [y c s h1 h2 h3 h4, x c s h1 h2 h3 h4]
theorem CFr.p4 (v : Int) : CFr Q T h (hput h 7 4 v) := fun c s h1 _ _ _ => hput_no (by omega)
theorem CFr.p5 (v : Int) : CFr Q T h (hput h 7 5 v) := fun c s h1 _ _ _ => hput_no (by omega)
theorem CFr.rx (v : Int) : CFr Q T h (rfX h v) := fun c s h1 _ _ _ => by unfold rfX; rw [hput_no (by omega), hput_no (by omega)]
theorem CFr.gre (F : CFr Q T h h') (E : GrE h Q tl tp) : GrE h' Q tl tp := by
  obtain ⟨X, e1, e2, e3, O, G⟩ := E
  have q := O.ge
  have u : ∀ x s, x < 7 → h' x s = h x s := fun x s hx => F x s (by omega) (by omega) (by omega) (by omega)
  have v : ∀ s, s ≠ 1 → s ≠ 5 → h' Q s = h Q s := fun s h1 h2 => F Q s (by omega) (by omega) (by omega) (by omega)
  refine ⟨?_, by rw [u 1 0 (by decide)]; exact e1, by rw [F 7 2 (by omega) (by omega) (by omega) (by omega)]; exact e2, by rw [F 7 3 (by omega) (by omega) (by omega) (by omega)]; exact e3, O, ?_⟩
  · unfold TapX at X ⊢
    rw [u 1 1 (by decide)]
    refine ⟨X.1, X.2.1, X.2.2.1, fun i i0 i1 => ?_⟩
    rw [u 2 i (by decide)]
    exact X.2.2.2 i i0 i1
  · unfold GShp at G ⊢
    rw [v 6 (by decide) (by decide), v 7 (by decide) (by decide), v 8 (by decide) (by decide), v 9 (by decide) (by decide), v 10 (by decide) (by decide), v 11 (by decide) (by decide), v 12 (by decide) (by decide), v 13 (by decide) (by decide), v 14 (by decide) (by decide), v 15 (by decide) (by decide), v 16 (by decide) (by decide), v 17 (by decide) (by decide), v 18 (by decide) (by decide)]
    exact G
theorem Of7.pt (j v : Int) : Of7 h (hput h 7 j v) := fun x s hx => hput_ne1 hx
theorem Of7.rx (v : Int) : Of7 h (rfX h v) := fun x s hx => by unfold rfX; rw [hput_ne1 hx, hput_ne1 hx]
theorem CB.of7 (O : GrO Q) (F : Of7 h h') (B : CB h Q T N) : CB h' Q T N := by
  have q := O.ge
  unfold CB at B ⊢
  simp only [F Q _ (show Q ≠ 7 by omega), F (Q + 1) _ (show Q + 1 ≠ 7 by omega), F (Q + 2) _ (show Q + 2 ≠ 7 by omega), F (Q + 8) _ (show Q + 8 ≠ 7 by omega), F (Q + 9) _ (show Q + 9 ≠ 7 by omega)]
  exact B
theorem LB.of7 (O : GrO Q) (F : Of7 h h') (B : LB h Q N) : LB h' Q N := by
  have q := O.ge
  unfold LB at B ⊢
  simp only [F Q _ (show Q ≠ 7 by omega), F (Q + 3) _ (show Q + 3 ≠ 7 by omega), F (Q + 4) _ (show Q + 4 ≠ 7 by omega)]
  exact B
theorem Eff.of7 (O : GrO Q) (F : Of7 h' h'') (B : Eff Q h h' N c P a s) : Eff Q h h'' N c P a s := by
  have q := O.ge
  unfold Eff at B ⊢
  simp only [F (Q + 2) _ (show Q + 2 ≠ 7 by omega), F (Q + 3) _ (show Q + 3 ≠ 7 by omega), F (Q + 4) _ (show Q + 4 ≠ 7 by omega), F (Q + 5) _ (show Q + 5 ≠ 7 by omega), F (Q + 6) _ (show Q + 6 ≠ 7 by omega), F (Q + 7) _ (show Q + 7 ≠ 7 by omega), F (Q + 8) _ (show Q + 8 ≠ 7 by omega), F (Q + 9) _ (show Q + 9 ≠ 7 by omega), F (Q + 10) _ (show Q + 10 ≠ 7 by omega)]
  exact B
theorem Eff.of7l (O : GrO Q) (F : Of7 h h') (B : Eff Q h' h'' N c P a s) : Eff Q h h'' N c P a s := by
  have q := O.ge
  unfold Eff at B ⊢
  simp only [F (Q + 2) _ (show Q + 2 ≠ 7 by omega), F (Q + 3) _ (show Q + 3 ≠ 7 by omega), F (Q + 4) _ (show Q + 4 ≠ 7 by omega), F (Q + 5) _ (show Q + 5 ≠ 7 by omega), F (Q + 6) _ (show Q + 6 ≠ 7 by omega), F (Q + 7) _ (show Q + 7 ≠ 7 by omega), F (Q + 8) _ (show Q + 8 ≠ 7 by omega), F (Q + 9) _ (show Q + 9 ≠ 7 by omega), F (Q + 10) _ (show Q + 10 ≠ 7 by omega)] at B
  exact B
theorem Nw.of7 {m up : Int} (O : GrO Q) (F : Of7 h h') (B : Nw h Q T N k l m up a s) : Nw h' Q T N k l m up a s := by
  have q := O.ge
  unfold Nw at B ⊢
  rw [F (Q + 2) _ (by omega), F (Q + 3) _ (by omega), F (Q + 4) _ (by omega), F (Q + 5) _ (by omega), F (Q + 6) _ (by omega), F (Q + 7) _ (by omega), F (Q + 8) _ (by omega), F (Q + 9) _ (by omega), F (Q + 10) _ (by omega)]
  exact B
/-- the place is another one -/
theorem CS.go {q : Int} (C : CS h Q tl tp T b rl p N fo) (q0 : 0 ≤ q) (q1 : q ≤ tl) : CS (hput h 7 4 q) Q tl tp T b rl q N fo := by
  obtain ⟨E, B, T1, hb, bd, h4, h0, pp, hr⟩ := C
  have O := E.2.2.2.2.1
  have q22 := O.ge
  refine ⟨(CFr.p4 (T := T) q).gre E, ⟨B.1.of7 O (Of7.pt _ _), B.2.of7 O (Of7.pt _ _)⟩, T1, by rw [hput_ne1 (by omega)]; exact hb, bd, hput_eq .., by rw [hput_ne2 (by decide)]; exact h0, ⟨q0, q1, by rw [hput_ne2 (by decide)]; exact pp.2.2⟩, fun z => ?_⟩
  rw [hput_ne1 (by omega), hput_ne1 (by omega)]
  exact hr z
theorem CS.cur {v : Int} (C : CS h Q tl tp T b rl p N fo) : CS (hput h 7 5 v) Q tl tp T b rl p N fo := by
  obtain ⟨E, B, T1, hb, bd, h4, h0, pp, hr⟩ := C
  have O := E.2.2.2.2.1
  have q22 := O.ge
  refine ⟨(CFr.p5 (T := T) v).gre E, ⟨B.1.of7 O (Of7.pt _ _), B.2.of7 O (Of7.pt _ _)⟩, T1, by rw [hput_ne1 (by omega)]; exact hb, bd, by rw [hput_ne2 (by decide)]; exact h4, by rw [hput_ne2 (by decide)]; exact h0, ⟨pp.1, pp.2.1, by rw [hput_ne2 (by decide)]; exact pp.2.2⟩, fun z => ?_⟩
  rw [hput_ne1 (by omega), hput_ne1 (by omega)]
  exact hr z
theorem CS.sign (C : CS h Q tl tp T b rl p N fo) : GR_sign 7 h = some (tpC tl tp p) := by
  obtain ⟨E, B, T1, hb, bd, h4, h0, pp, hr⟩ := C
  rw [gr_sign E (by omega), h4]
theorem CS.goOn (C : CS h Q tl tp T b rl p N fo) (hs : tpC tl tp p ≠ -1) : GR_goOn 7 1 h = some (hput h 7 4 (blA tl tp (p + 1))) ∧ p < blA tl tp (p + 1) ∧ blA tl tp (p + 1) ≤ tl ∧ CS (hput h 7 4 (blA tl tp (p + 1))) Q tl tp T b rl (blA tl tp (p + 1)) N fo := by
  have C0 := C
  obtain ⟨E, B, T1, hb, bd, h4, h0, pp, hr⟩ := C
  have t4 := E.1.2.2.1
  have pt : p < tl := by
    by_cases z : p < tl
    · exact z
    · exact absurd (tpC_out (by omega)) hs
  have bl := blA_le (tl := tl) (tp := tp) (p + 1)
  have b2 := bl.2.1 (by omega)
  refine ⟨?_, by omega, b2, C0.go (by omega) b2⟩
  rw [gr_goOn E (by omega) (by omega) (by decide) (by decide), h4]
theorem CS.room (C : CS h Q tl tp T b rl p N fo) : Gr_hasRoomForNode Q h = some (if rmN b N = true then 1 else 0) := by
  obtain ⟨E, B, T1, hb, bd, h4, h0, pp, hr⟩ := C
  obtain ⟨X, e1, e2, e3, O, G⟩ := E
  obtain ⟨g0, g1, g2⟩ := GrO_k O
  obtain ⟨t, x0, x1, nn, xT, rows⟩ := B.1
  unfold Gr_hasRoomForNode Gr_hasRoomForNode_j34 rmN
  rw [if_pos g0, x1]
  by_cases z : 40 ≤ N
  · rw [if_pos z, if_neg (by simp; omega)]
  · rw [if_neg z, x0, G.1, show w32 (T - 1) = T - 1 by unfold w32; omega, if_pos ⟨g1.1, by omega, by rw [g1.2]; omega⟩, hb, show w32 (N - b) = N - b by unfold w32; omega]
    by_cases y : 12 ≤ N - b
    · rw [if_pos y, if_neg (by simp; omega)]
    · rw [if_neg y, if_pos (by simp; omega)]
theorem rfX_at (v : Int) : (rfX h v) 7 0 = v ∧ (rfX h v) 7 1 = h 7 4 := by
  unfold rfX
  exact ⟨by rw [hput_ne2 (by decide), hput_eq], hput_eq ..⟩
/-- a row is there, and the class reads on -/
theorem CS.add {a s : Nat} {h1 : Hp} {fo' : Bool} {c : Int} (C : CS h Q tl tp T b rl p N fo) (R : AddR Q T h h1 N c P k l a s) (N2 : N < b + 12) (bN : b < N) (hs : (s = 0 ∧ fo' = fo) ∨ (s = 1 ∧ fo' = true ∧ b ∈ P)) : CS h1 Q tl tp T b rl p (N + 1) fo' := by
  obtain ⟨E, B, T1, hb, bd, h4, h0, pp, hr⟩ := C
  obtain ⟨w, F, fr, cb, lb, e7⟩ := R
  have q22 := E.2.2.2.2.1.ge
  refine ⟨fr.gre E, ⟨cb, lb⟩, T1, ?_, by omega, by rw [e7]; exact h4, by rw [e7]; exact h0, ⟨pp.1, pp.2.1, by rw [e7]; exact pp.2.2⟩, fun _ => ?_⟩
  · rw [fr (Q + 1) (T - 1) (by omega) (by omega) (by omega) (by omega)]; exact hb
  · obtain ⟨q1, q2, q3, q4, q5⟩ := F b bd.1 bN
    rw [q1.2.2.1, q5]
    refine ⟨(hr bN).1, ?_⟩
    rcases hs with ⟨z1, z2⟩ | ⟨z1, z2, z3⟩
    · rw [if_neg (by omega), z2]; exact (hr bN).2
    · rw [if_pos ⟨z3, by omega⟩, z2, if_pos rfl]
end
