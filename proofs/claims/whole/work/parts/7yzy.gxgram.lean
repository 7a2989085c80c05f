/-! grammar(): the class -/
def gmX (h : Hp) (Q : Int) : Gm := fun i n => if i < 8 then h (Q + (3 + i)) n else if i = 8 then h (Q + 2) n else if i = 9 then h (Q + 1) n else if n = 0 then h Q 0 else h Q 1
def YRes (h' : Hp) (Q tl : Int) (v : Int) : (Int × Int) ⊕ (Int × Int × (Int → Dv)) → Prop
  | .inl z => v = 0 ∧ z.1 ≠ 0 ∧ h' 7 0 = z.1 ∧ h' 7 1 = z.2
  | .inr z => v = 1 ∧ h' 7 0 = 0 ∧ h' 7 1 = -1 ∧ CB h' Q z.1 z.2.1 ∧ LB h' Q z.2.1 ∧ TrL h' Q z.1 z.2.2 ∧ MkI h' Q z.1 ∧ OrdI (tnX h' Q) (h' (Q + 11)) z.2.1 z.2.1 (fun _ => true) ∧ h' Q 4 = 0
section
variable {h h' : Hp} {Q tl T N : Int} {tp : Int → Int}
theorem clear_ok (O : GrO Q) (G : GShp h Q) : ∃ h', Gr_clear Q h = some h' ∧ (∀ s, 0 ≤ s → s < 6 → h' Q s = 0) ∧ h' (Q + 1) 0 = 0 ∧ (∀ l, 0 ≤ l → l < 26 → h' (Q + 12) l = 0 ∧ h' (Q + 13) l = 0) ∧ (∀ c s, (c ≠ Q ∨ 6 ≤ s) → c ≠ Q + 1 → c ≠ Q + 12 → c ≠ Q + 13 → h' c s = h c s) := by
  obtain ⟨g0, g1, g2, g3, g4, g5, g6, g7, g8, g9, g10, g11, g12, g13⟩ := GrO_k O
  have s6 : ∀ s, 0 ≤ s → s < 6 → (hput (hput (hput (hput (hput (hput h Q 0 0) Q 1 0) Q 2 0) Q 3 0) Q 4 0) Q 5 0) Q s = 0 := by
    intro s s0 s1
    have : s = 0 ∨ s = 1 ∨ s = 2 ∨ s = 3 ∨ s = 4 ∨ s = 5 := by omega
    rcases this with rfl | rfl | rfl | rfl | rfl | rfl
    · rw [hput_ne2 (by decide), hput_ne2 (by decide), hput_ne2 (by decide), hput_ne2 (by decide), hput_ne2 (by decide), hput_eq]
    · rw [hput_ne2 (by decide), hput_ne2 (by decide), hput_ne2 (by decide), hput_ne2 (by decide), hput_eq]
    · rw [hput_ne2 (by decide), hput_ne2 (by decide), hput_ne2 (by decide), hput_eq]
    · rw [hput_ne2 (by decide), hput_ne2 (by decide), hput_eq]
    · rw [hput_ne2 (by decide), hput_eq]
    · rw [hput_eq]
  have e6 : ∀ c s, (c ≠ Q ∨ 6 ≤ s) → (hput (hput (hput (hput (hput (hput h Q 0 0) Q 1 0) Q 2 0) Q 3 0) Q 4 0) Q 5 0) c s = h c s := by
    intro c s z
    rw [hput_no (by omega), hput_no (by omega), hput_no (by omega), hput_no (by omega), hput_no (by omega), hput_no (by omega)]
  unfold Gr_clear
  rw [if_pos g0]
  simp only
  generalize hput (hput (hput (hput (hput (hput h Q 0 0) Q 1 0) Q 2 0) Q 3 0) Q 4 0) Q 5 0 = f at s6 e6 ⊢
  rw [e6 Q 6 (by omega), G.1, if_pos (show kK (Q + 1) = 21 ∧ (0 : Int) ≤ 0 ∧ (0 : Int) < kL (Q + 1) from ⟨g1.1, by decide, by rw [g1.2]; decide⟩), hput_ne1 (show Q ≠ Q + 1 by omega), e6 Q 17 (by omega), G.2.2.2.2.2.2.2.2.2.2.2.1]
  obtain ⟨h1, e1, q1⟩ := JA_fillI_ok (h := hput f (Q + 1) 0 0) (v := 0) g12.1 (by rw [g12.2]; decide) (by rw [g12.2]; decide)
  have k18 : h1 Q 18 = Q + 13 := by
    rw [q1, if_neg (by omega), hput_ne1 (by omega), e6 Q 18 (by omega)]
    exact G.2.2.2.2.2.2.2.2.2.2.2.2
  rw [e1, ob_some, k18]
  obtain ⟨h2, e2, q2⟩ := JA_fillI_ok (h := h1) (v := 0) g13.1 (by rw [g13.2]; decide) (by rw [g13.2]; decide)
  rw [e2, ob_some]
  refine ⟨h2, rfl, fun s s0 s1 => ?_, ?_, fun l l0 l1 => ⟨?_, ?_⟩, fun c s a1 a2 a3 a4 => ?_⟩
  · rw [q2, if_neg (by omega), q1, if_neg (by omega), hput_ne1 (by omega)]; exact s6 s s0 s1
  · rw [q2, if_neg (by omega), q1, if_neg (by omega), hput_eq]
  · rw [q2, if_neg (by omega), q1, if_pos ⟨rfl, l0, by rw [g12.2]; omega⟩]
  · rw [q2, if_pos ⟨rfl, l0, by rw [g13.2]; omega⟩]
  · rw [q2, if_neg (by omega), q1, if_neg (by omega), hput_ne1 a2]; exact e6 c s a1
theorem gReadText_ok (O : GrO Q) (G : GShp h Q) (X : TapX h tl tp) (e1 : h 1 0 = 2) : ∃ v h', GR_readText 7 1 Q h = some (v, h') ∧ (∀ c s, c ≠ 7 → (c < Q ∨ Q + 13 < c) → h' c s = h c s) ∧ GShp h' Q ∧ YRes h' Q tl v (gT tl tp 9 0 0 (blA tl tp 0) (fun _ => .zero)) := by
  have q22 := O.ge
  have g0 := (GrO_k O).1
  have G2 : GShp (hput (hput h 7 2 1) 7 3 Q) Q := by
    unfold GShp at G ⊢
    have e : ∀ s, (hput (hput h 7 2 1) 7 3 Q) Q s = h Q s := fun s => by rw [hput_ne1 (by omega), hput_ne1 (by omega)]
    simp only [e]
    exact G
  obtain ⟨h3, ec, c6, cB, cm, cf⟩ := clear_ok O G2
  have f7 : ∀ s, h3 7 s = (hput (hput h 7 2 1) 7 3 Q) 7 s := fun s => cf 7 s (by omega) (by omega) (by omega) (by omega)
  have w : ∀ c s, c ≠ 7 → (c < Q ∨ Q + 13 < c) → h3 c s = h c s := fun c s a1 a2 => by
    rw [cf c s (by omega) (by omega) (by omega) (by omega), hput_ne1 a1, hput_ne1 a1]
  have z72 : (hput (hput h3 7 0 0) 7 1 (-1)) 7 2 = 1 := by rw [hput_ne2 (by decide), hput_ne2 (by decide), f7, hput_ne2 (by decide), hput_eq]
  have z73 : (hput (hput h3 7 0 0) 7 1 (-1)) 7 3 = Q := by rw [hput_ne2 (by decide), hput_ne2 (by decide), f7, hput_eq]
  have z70 : (hput (hput h3 7 0 0) 7 1 (-1)) 7 0 = 0 := by rw [hput_ne2 (by decide), hput_eq]
  have z71 : (hput (hput h3 7 0 0) 7 1 (-1)) 7 1 = -1 := hput_eq ..
  have w4 : ∀ c s, c ≠ 7 → (hput (hput h3 7 0 0) 7 1 (-1)) c s = h3 c s := fun c s a => by rw [hput_ne1 a, hput_ne1 a]
  generalize h4e : hput (hput h3 7 0 0) 7 1 (-1) = h4 at z72 z73 z70 z71 w4
  have X4 : TapX h4 tl tp := by
    unfold TapX at X ⊢
    rw [w4 1 1 (by decide), w 1 1 (by decide) (by omega)]
    refine ⟨X.1, X.2.1, X.2.2.1, fun i i0 i1 => ?_⟩
    rw [w4 2 i (by decide), w 2 i (by decide) (by omega)]
    exact X.2.2.2 i i0 i1
  have e14 : h4 1 0 = 2 := by rw [w4 1 0 (by decide), w 1 0 (by decide) (by omega)]; exact e1
  have G4 : GShp h4 Q := by
    have e : ∀ s, 6 ≤ s → h4 Q s = (hput (hput h 7 2 1) 7 3 Q) Q s := fun s hs => by rw [w4 Q s (by omega), cf Q s (Or.inr hs) (by omega) (by omega) (by omega)]
    unfold GShp at G2 ⊢
    rw [e 6 (by decide), e 7 (by decide), e 8 (by decide), e 9 (by decide), e 10 (by decide), e 11 (by decide), e 12 (by decide), e 13 (by decide), e 14 (by decide), e 15 (by decide), e 16 (by decide), e 17 (by decide), e 18 (by decide)]
    exact G2
  have bl := blA_le (tl := tl) (tp := tp) 0
  have b2 := bl.2.1 X.2.1
  have E4 : GrE h4 Q tl tp := ⟨X4, e14, z72, z73, O, G4⟩
  have C5 : CL (hput h4 7 4 (blA tl tp 0)) Q tl tp 0 0 (blA tl tp 0) (fun _ => .zero) := by
    have v : ∀ c s, c ≠ 7 → (hput h4 7 4 (blA tl tp 0)) c s = h3 c s := fun c s a => by rw [hput_ne1 a]; exact w4 c s a
    have vQ : ∀ s, 0 ≤ s → s < 6 → (hput h4 7 4 (blA tl tp 0)) Q s = 0 := fun s a b => by rw [v Q s (by omega)]; exact c6 s a b
    refine ⟨(CFr.p4 (T := 0) _).gre E4, ⟨⟨by decide, vQ 0 (by decide) (by decide), vQ 1 (by decide) (by decide), by decide, by rw [v (Q + 1) 0 (by omega)]; exact cB, fun n n0 n1 => by omega⟩, ?_⟩, ⟨hput_eq .., by rw [hput_ne2 (by decide)]; exact z70, by rw [hput_ne2 (by decide)]; exact z71⟩, ⟨by omega, b2⟩, ⟨by rw [v (Q + 1) 0 (by omega)]; exact cB, fun t t0 t1 => by omega⟩, ?_⟩
    · unfold LB
      rw [vQ 5 (by decide) (by decide)]
      refine ⟨by decide, fun l l0 l1 => ?_⟩
      rw [bit_0 l0 (by omega)]
      exact ⟨fun z => absurd z (by decide), fun ⟨n, n0, n1, _⟩ => by omega⟩
    · unfold MkI
      rw [vQ 2 (by decide) (by decide), vQ 3 (by decide) (by decide)]
      refine ⟨by decide, by decide, fun t t0 t1 => ?_, fun l l0 l1 => ?_⟩
      · rw [bit_0 t0 (by omega), if_neg (fun z => by omega), if_neg (fun z => by omega)]
        exact ⟨rfl, rfl⟩
      · rw [v (Q + 12) l (by omega), v (Q + 13) l (by omega), (cm l l0 l1).1, (cm l l0 l1).2]
        refine ⟨by decide, fun t t0 t1 => ?_⟩
        rw [bit_0 t0 (by omega), if_neg (fun z => by omega), if_neg (fun z => by omega)]
        exact ⟨rfl, rfl⟩
  obtain ⟨h6, el, R6⟩ := text_ok 9 LN 0 0 (blA tl tp 0) (fun _ => .zero) _ C5 rfl (by unfold LN; decide)
  have base : ∀ {c s : Int}, c ≠ 7 → (c < Q ∨ Q + 13 < c) → (hput h4 7 4 (blA tl tp 0)) c s = h c s := fun a1 a2 => by
    rw [hput_ne1 a1, w4 _ _ a1, w _ _ a1 a2]
  have fin : ∀ T' N', CB h6 Q T' N' → LFr Q (hput h4 7 4 (blA tl tp 0)) h6 → ∃ h', Gr_putInOrder Q h6 = some h' ∧ (∀ c s, c ≠ Q + 11 → h' c s = h6 c s) ∧ OrdI (tnX h6 Q) (h' (Q + 11)) N' N' (fun _ => true) ∧ (∀ c s, c ≠ 7 → (c < Q ∨ Q + 13 < c) → h' c s = h c s) ∧ GShp h' Q := by
    intro T' N' B' F
    have G6 : GShp h6 Q := (F.gre C5.1).2.2.2.2.2
    obtain ⟨h', e, f, I⟩ := putInOrder_ok O G6 B'
    refine ⟨h', e, f, I, fun c s a1 a2 => by rw [f c s (by omega), F c s (by omega) (by omega) (by omega)]; exact base a1 a2, ?_⟩
    have eq : ∀ s, h' Q s = h6 Q s := fun s => f Q s (by omega)
    unfold GShp at G6 ⊢
    simp only [eq]
    exact G6
  have rt : ∀ h', Gr_putInOrder Q h6 = some h' → h6 7 3 = Q → GR_readText 7 1 Q h = some (if h' 7 0 = 0 then 1 else 0, h') := by
    intro h' e e3
    unfold GR_readText
    rw [if_pos kK_7]
    simp only
    rw [hput_eq, if_pos g0, ec, ob_some]
    rw [h4e, z72, if_pos (by decide), tx_blanks X4 e14 (Int.le_refl 0), ob_some]
    rw [el, ob_some, e3, if_pos g0, e, ob_some]
  cases hg : gT tl tp 9 0 0 (blA tl tp 0) (fun _ => .zero) with
  | inl z =>
    rw [hg] at R6
    obtain ⟨a1, a2, a3, ⟨T', N', B'⟩, F⟩ := R6
    obtain ⟨h', e, f, I, fr, Gs⟩ := fin T' N' B' F
    refine ⟨_, h', rt h' e (F.gre C5.1).2.2.2.1, fr, Gs, ?_, a1, by rw [f 7 0 (by omega)]; exact a2, by rw [f 7 1 (by omega)]; exact a3⟩
    rw [f 7 0 (by omega), a2, if_neg a1]
  | inr z =>
    obtain ⟨T', N', dd⟩ := z
    rw [hg] at R6
    obtain ⟨⟨p, L⟩, F⟩ := R6
    obtain ⟨E6, ⟨B6, L6⟩, ⟨k4, k0, k1⟩, pp, TX, MI⟩ := L
    simp only at B6 L6 TX MI
    obtain ⟨h', e, f, I, fr, Gs⟩ := fin T' N' B6 F
    have ej : ∀ j, j < 11 ∨ 11 < j → ∀ s, h' (Q + j) s = h6 (Q + j) s := fun j hj s => f (Q + j) s (by omega)
    have eQ : ∀ s, h' Q s = h6 Q s := fun s => f Q s (by omega)
    have tn : tnX h' Q = tnX h6 Q := by
      funext n
      unfold tnX
      rw [ej 2 (by decide), ej 1 (by decide), ej 9 (by decide), ej 9 (by decide)]
    refine ⟨_, h', rt h' e E6.2.2.2.1, fr, Gs, ?_, by rw [f 7 0 (by omega)]; exact k0, by rw [f 7 1 (by omega)]; exact k1, CB_eq B6 (eQ 0) (eQ 1) (fun j i hj => ej j (by omega) i), LB_eq L6 (eQ 5) (fun j i hj => ej j (by omega) i), ?_, ?_, by rw [tn]; exact I, ?_⟩
    · rw [f 7 0 (by omega), k0, if_pos rfl]
    · unfold TrL at TX ⊢
      simp only [ej 1 (by decide), ej 2 (by decide)]
      refine ⟨TX.1, fun t t0 t1 => ?_⟩
      have u := TX.2 t t0 t1
      exact ⟨Hd_eq _ _ _ u.1 (fun i n i0 i1 _ _ => ej (3 + i) (by omega) n), u.2⟩
    · unfold MkI at MI ⊢
      simp only [eQ, ej 1 (by decide), ej 4 (by decide), ej 10 (by decide), ej 12 (by decide), ej 13 (by decide)]
      exact MI
    · rw [eQ 4, F Q 4 (by omega) (by omega) (by omega), hput_ne1 (by omega), w4 Q 4 (by omega)]
      exact c6 4 (by decide) (by decide)
end
