/-! grammar: the class reads a line -/
def wdB (tl : Int) (tp : Int → Int) (p : Int) : Bool := decide (tpC tl tp p = 116 ∧ tpC tl tp (p + 1) = 114 ∧ tpC tl tp (p + 2) = 101 ∧ tpC tl tp (p + 3) = 101)
def lnR (tl : Int) (tp : Int → Int) (N p : Int) : (Int × Int) ⊕ (Dv × Int) :=
  if tpC tl tp (blA tl tp (p + 4)) = 40 then
    match rtR tl tp (gP tl tp 402 true N 0 (blA tl tp (blA tl tp (p + 4) + 1)) N false) with
    | .inl e => .inl e
    | .inr (x, q, _) => if tpC tl tp q = 59 then .inr (x, blA tl tp (q + 1)) else .inl (1, q)
  else .inl (1, blA tl tp (p + 4))
def gL (tl : Int) (tp : Int → Int) (T N p : Int) : (Int × Int) ⊕ (Dv × Int) := if wdB tl tp p = true then (if T < 8 then lnR tl tp N p else .inl (3, p)) else .inl (1, p)
def TrL (h : Hp) (Q T : Int) (dd : Int → Dv) : Prop := h (Q + 1) 0 = 0 ∧ ∀ t, 0 ≤ t → t < T → Hd true (RX h Q) (dd t) (h (Q + 1) t) (-1) ∧ h (Q + 1) (t + 1) = h (Q + 1) t + szT (dd t) ∧ ∀ n, h (Q + 1) t ≤ n → n < h (Q + 1) (t + 1) → h (Q + 2) n = t
def MkI (h : Hp) (Q T : Int) : Prop := (0 ≤ h Q 2 ∧ h Q 2 < 256) ∧ (0 ≤ h Q 3 ∧ h Q 3 < 256) ∧
  (∀ t, 0 ≤ t → t < 8 → bit (h Q 2) t = (if t < T ∧ h (Q + 10) (h (Q + 1) t) = 0 then 1 else 0) ∧ bit (h Q 3) t = (if t < T ∧ h (Q + 10) (h (Q + 1) t) = 1 then 1 else 0)) ∧
  (∀ l, 0 ≤ l → l < 26 → (0 ≤ h (Q + 12) l ∧ h (Q + 12) l < 256 ∧ 0 ≤ h (Q + 13) l ∧ h (Q + 13) l < 256) ∧ ∀ t, 0 ≤ t → t < 8 → bit (h (Q + 12) l) t = (if t < T ∧ h (Q + 10) (h (Q + 1) t) = 0 ∧ h (Q + 4) (h (Q + 1) t) = l then 1 else 0) ∧ bit (h (Q + 13) l) t = (if t < T ∧ h (Q + 10) (h (Q + 1) t) = 1 ∧ h (Q + 4) (h (Q + 1) t) = l then 1 else 0))
def CL (h : Hp) (Q tl : Int) (tp : Int → Int) (T N p : Int) (dd : Int → Dv) : Prop := GrE h Q tl tp ∧ (CB h Q T N ∧ LB h Q N) ∧ (h 7 4 = p ∧ h 7 0 = 0 ∧ h 7 1 = -1) ∧ (0 ≤ p ∧ p ≤ tl) ∧ TrL h Q T dd ∧ MkI h Q T
def LFr (Q : Int) (h h' : Hp) : Prop := ∀ c s, (c ≠ 7 ∨ (s ≠ 0 ∧ s ≠ 1 ∧ s ≠ 4 ∧ s ≠ 5)) → (c ≠ Q ∨ s = 4 ∨ 6 ≤ s) → (c < Q + 1 ∨ Q + 13 < c) → h' c s = h c s
def LRes (h : Hp) (Q tl : Int) (tp : Int → Int) (T N : Int) (dd : Int → Dv) (h' : Hp) : (Int × Int) ⊕ (Dv × Int) → Prop
  | .inl z => z.1 ≠ 0 ∧ h' 7 0 = z.1 ∧ h' 7 1 = z.2 ∧ (∃ T' N', CB h' Q T' N') ∧ LFr Q h h'
  | .inr z => CL h' Q tl tp (T + 1) (N + szT z.1) z.2 (fun t => if t = T then z.1 else dd t) ∧ LFr Q h h'
def clH (h : Hp) (Q T lab s : Int) : Hp := if s = 0 then hput (hput h Q 2 (i_or (h Q 2) (i_shl 1 T))) (Q + 12) lab (i_or (h (Q + 12) lab) (i_shl 1 T)) else hput (hput h Q 3 (i_or (h Q 3) (i_shl 1 T))) (Q + 13) lab (i_or (h (Q + 13) lab) (i_shl 1 T))
section
variable {h h' h'' : Hp} {Q tl T b rl p N c k l t lab s : Int} {tp : Int → Int} {fo : Bool} {P A : List Int} {dd : Int → Dv}
theorem wdB_iff : wdB tl tp p = true ↔ wdA tl tp p := by
  unfold wdB wdA
  exact ⟨of_decide_eq_true, decide_eq_true⟩
theorem LFr.rf : LFr Q h h := fun _ _ _ _ _ => rfl
theorem LFr.tr (x : LFr Q h h') (y : LFr Q h' h'') : LFr Q h h'' := fun c s h1 h2 h3 => by rw [y c s h1 h2 h3, x c s h1 h2 h3]
theorem CFr.lf (x : CFr Q T h h') : LFr Q h h' := fun c s h1 h2 h3 => x c s h1 (by omega) (by omega) (by omega)
theorem LFr.gre (F : LFr Q h h') (E : GrE h Q tl tp) : GrE h' Q tl tp := by
  obtain ⟨X, e1, e2, e3, O, G⟩ := E
  have q := O.ge
  have u : ∀ x s, x < 7 → h' x s = h x s := fun x s hx => F x s (by omega) (by omega) (by omega)
  have v : ∀ s, 6 ≤ s → h' Q s = h Q s := fun s h1 => F Q s (by omega) (by omega) (by omega)
  refine ⟨?_, by rw [u 1 0 (by decide)]; exact e1, by rw [F 7 2 (by omega) (by omega) (by omega)]; exact e2, by rw [F 7 3 (by omega) (by omega) (by omega)]; exact e3, O, ?_⟩
  · unfold TapX at X ⊢
    rw [u 1 1 (by decide)]
    refine ⟨X.1, X.2.1, X.2.2.1, fun i i0 i1 => ?_⟩
    rw [u 2 i (by decide)]
    exact X.2.2.2 i i0 i1
  · unfold GShp at G ⊢
    rw [v 6 (by decide), v 7 (by decide), v 8 (by decide), v 9 (by decide), v 10 (by decide), v 11 (by decide), v 12 (by decide), v 13 (by decide), v 14 (by decide), v 15 (by decide), v 16 (by decide), v 17 (by decide), v 18 (by decide)]
    exact G
theorem CB_eq (B : CB h Q T N) (e0 : h' Q 0 = h Q 0) (e1 : h' Q 1 = h Q 1) (e : ∀ j i, (j = 1 ∨ j = 2 ∨ j = 8 ∨ j = 9) → h' (Q + j) i = h (Q + j) i) : CB h' Q T N := by
  unfold CB at B ⊢
  simp only [e0, e1, e 1 _ (by decide), e 2 _ (by decide), e 8 _ (by decide), e 9 _ (by decide)]
  exact B
theorem LB_eq (B : LB h Q N) (e5 : h' Q 5 = h Q 5) (e : ∀ j i, (j = 3 ∨ j = 4) → h' (Q + j) i = h (Q + j) i) : LB h' Q N := by
  unfold LB at B ⊢
  simp only [e5, e 3 _ (by decide), e 4 _ (by decide)]
  exact B
theorem Eff_old {a s : Nat} (F : Eff Q h h' N c [] a s) (hc : c < 0 ∨ N ≤ c) {j n : Int} (j0 : 2 ≤ j) (j1 : j ≤ 10) (n0 : 0 ≤ n) (n1 : n < N) : h' (Q + j) n = h (Q + j) n := by
  obtain ⟨q1, q2, q3, q4, q5⟩ := F n n0 n1
  have q2 := q2 (by omega)
  rw [if_neg (by simp)] at q4
  rw [if_neg (by simp)] at q5
  have : j = 2 ∨ j = 3 ∨ j = 4 ∨ j = 5 ∨ j = 6 ∨ j = 7 ∨ j = 8 ∨ j = 9 ∨ j = 10 := by omega
  rcases this with rfl | rfl | rfl | rfl | rfl | rfl | rfl | rfl | rfl
  · exact q1.1
  · exact q1.2.1
  · exact q1.2.2.1
  · exact q1.2.2.2.1
  · exact q2.1
  · exact q2.2
  · exact q1.2.2.2.2
  · rw [q4]; simp
  · exact q5
theorem TrL_le (X : TrL h Q T dd) : ∀ (k : Nat) (t : Int), 0 ≤ t → t + k ≤ T → 0 ≤ h (Q + 1) t → h (Q + 1) t ≤ h (Q + 1) (t + k)
  | 0, t, _, _, _ => by rw [show t + ((0 : Nat) : Int) = t by omega]; exact Int.le_refl _
  | k + 1, t, t0, t1, hz => by
    have s1 := (X.2 t t0 (by omega)).2.1
    have := TrL_le X k (t + 1) (by omega) (by omega) (by omega)
    rw [show t + ((k + 1 : Nat) : Int) = t + 1 + k by omega]
    omega
theorem TrL_in (X : TrL h Q T dd) (B : CB h Q T N) (t0 : 0 ≤ t) (t1 : t ≤ T) : 0 ≤ h (Q + 1) t ∧ h (Q + 1) t ≤ N := by
  have a := TrL_le X t.toNat 0 (Int.le_refl _) (by omega) (by rw [X.1]; exact Int.le_refl _)
  rw [X.1, show 0 + (t.toNat : Int) = t by omega] at a
  have b := TrL_le X (T - t).toNat t t0 (by omega) a
  rw [show t + ((T - t).toNat : Int) = T by omega, B.2.2.2.2.1] at b
  exact ⟨a, b⟩
theorem close_ok (O : GrO Q) (G : GShp h Q) (e0 : h Q 0 = T + 1) (T0 : 0 ≤ T) (T1 : T < 8) (hb : h (Q + 1) T = b) (b0 : 0 ≤ b) (b1 : b < 40) (hs : h (Q + 10) b = s) (hl : h (Q + 4) b = lab) (l0 : 0 ≤ lab) (l1 : lab < 26) : Gr_closeTree Q h = some (clH h Q T lab s) := by
  obtain ⟨g0, g1, g2, g3, g4, g5, g6, g7, g8, g9, g10, g11, g12, g13⟩ := GrO_k O
  unfold Gr_closeTree clH
  rw [if_pos g0, G.1, e0, show w32 (T + 1 - 1) = T by unfold w32; omega, if_pos (show kK (Q + 1) = 21 ∧ (0 : Int) ≤ T ∧ T < kL (Q + 1) from ⟨g1.1, T0, by rw [g1.2]; omega⟩), hb, G.2.2.2.2.2.2.2.2.2.1, if_pos (show kK (Q + 10) = 23 ∧ (0 : Int) ≤ b ∧ b < kL (Q + 10) from ⟨g10.1, b0, by rw [g10.2]; omega⟩), hs]
  by_cases z : s = 0
  · rw [if_pos z, if_pos z]
    simp only
    rw [hput_ne2 (show (9 : Int) ≠ 2 by decide), G.2.2.2.1, if_pos (show kK (Q + 4) = 21 ∧ (0 : Int) ≤ b ∧ b < kL (Q + 4) from ⟨g4.1, b0, by rw [g4.2]; omega⟩), hput_ne1 (show Q + 4 ≠ Q by omega), hl, hput_ne2 (show (17 : Int) ≠ 2 by decide), G.2.2.2.2.2.2.2.2.2.2.2.1, if_pos (show kK (Q + 12) = 21 ∧ (0 : Int) ≤ lab ∧ lab < kL (Q + 12) from ⟨g12.1, l0, by rw [g12.2]; omega⟩), hput_ne1 (show Q + 12 ≠ Q by omega)]
  · rw [if_neg z, if_neg z]
    simp only
    rw [hput_ne2 (show (9 : Int) ≠ 3 by decide), G.2.2.2.1, if_pos (show kK (Q + 4) = 21 ∧ (0 : Int) ≤ b ∧ b < kL (Q + 4) from ⟨g4.1, b0, by rw [g4.2]; omega⟩), hput_ne1 (show Q + 4 ≠ Q by omega), hl, hput_ne2 (show (18 : Int) ≠ 3 by decide), G.2.2.2.2.2.2.2.2.2.2.2.2, if_pos (show kK (Q + 13) = 21 ∧ (0 : Int) ≤ lab ∧ lab < kL (Q + 13) from ⟨g13.1, l0, by rw [g13.2]; omega⟩), hput_ne1 (show Q + 13 ≠ Q by omega)]
theorem clH_no {x i : Int} (h1 : x ≠ Q ∨ (i ≠ 2 ∧ i ≠ 3)) (h2 : x ≠ Q + 12) (h3 : x ≠ Q + 13) : clH h Q T lab s x i = h x i := by
  unfold clH
  split
  · rw [hput_ne1 h2, hput_no (by omega)]
  · rw [hput_ne1 h3, hput_no (by omega)]
theorem bit_T {v : Int} (v0 : 0 ≤ v) (v1 : v < 256) (T0 : 0 ≤ T) (T1 : T < 8) : (0 ≤ i_or v (i_shl 1 T) ∧ i_or v (i_shl 1 T) < 256) ∧ ∀ t, 0 ≤ t → t < 8 → bit (i_or v (i_shl 1 T)) t = if t = T then 1 else bit v t := by
  refine ⟨?_, fun t t0 t1 => bit_or1 v0 (by omega) T0 (by omega) t0 (by omega)⟩
  have := or1_in (x := v) (t := T) (n := 8) v0 (by decide) (by decide) (by rw [show (((2 ^ (8 : Int).toNat : Nat)) : Int) = 256 by decide]; exact v1) T0 T1
  rw [show (((2 ^ (8 : Int).toNat : Nat)) : Int) = 256 by decide] at this
  exact this
/-- the masks with one tree more -/
theorem MkI_cl (M : MkI h Q T) (T0 : 0 ≤ T) (T1 : T < 8) (hb : h (Q + 1) T = b) (hs : h (Q + 10) b = s) (s01 : s = 0 ∨ s = 1) (hl : h (Q + 4) b = lab) (l0 : 0 ≤ lab) (l1 : lab < 26) : MkI (clH h Q T lab s) Q (T + 1) := by
  obtain ⟨m2, m3, mt, ml⟩ := M
  have e1 : ∀ i, clH h Q T lab s (Q + 1) i = h (Q + 1) i := fun i => clH_no (by omega) (by omega) (by omega)
  have e4 : ∀ i, clH h Q T lab s (Q + 4) i = h (Q + 4) i := fun i => clH_no (by omega) (by omega) (by omega)
  have e10 : ∀ i, clH h Q T lab s (Q + 10) i = h (Q + 10) i := fun i => clH_no (by omega) (by omega) (by omega)
  have b2 := bit_T m2.1 m2.2 T0 T1
  have b3 := bit_T m3.1 m3.2 T0 T1
  have q := ml lab l0 l1
  have b12 := bit_T q.1.1 q.1.2.1 T0 T1
  have b13 := bit_T q.1.2.2.1 q.1.2.2.2 T0 T1
  have lt : ∀ t : Int, t ≠ T → (t < T + 1 ↔ t < T) := fun t z => by omega
  unfold MkI
  simp only [e1, e4, e10]
  rcases s01 with rfl | rfl
  · have v2 : clH h Q T lab 0 Q 2 = i_or (h Q 2) (i_shl 1 T) := by unfold clH; rw [if_pos rfl, hput_ne1 (by omega), hput_eq]
    have v3 : clH h Q T lab 0 Q 3 = h Q 3 := by unfold clH; rw [if_pos rfl, hput_ne1 (by omega), hput_ne2 (by decide)]
    have v12 : ∀ l, clH h Q T lab 0 (Q + 12) l = if l = lab then i_or (h (Q + 12) lab) (i_shl 1 T) else h (Q + 12) l := fun l => by
      unfold clH
      rw [if_pos rfl]
      by_cases z : l = lab
      · rw [if_pos z, z, hput_eq]
      · rw [if_neg z, hput_ne2 z, hput_ne1 (by omega)]
    have v13 : ∀ l, clH h Q T lab 0 (Q + 13) l = h (Q + 13) l := fun l => by unfold clH; rw [if_pos rfl, hput_ne1 (by omega), hput_ne1 (by omega)]
    rw [v2, v3]
    refine ⟨b2.1, m3, fun t t0 t1 => ⟨?_, ?_⟩, fun l j0 j1 => ?_⟩
    · rw [b2.2 t t0 t1, (mt t t0 t1).1]
      by_cases z : t = T
      · rw [if_pos z, z, hb, hs, if_pos ⟨by omega, rfl⟩]
      · rw [if_neg z]; simp only [lt t z]
    · rw [(mt t t0 t1).2]
      by_cases z : t = T
      · rw [z, hb, hs, if_neg (fun w => by omega), if_neg (fun w => absurd w.2 (by decide))]
      · simp only [lt t z]
    · have ql := ml l j0 j1
      rw [v12, v13]
      by_cases z : l = lab
      · subst z
        rw [if_pos rfl]
        refine ⟨⟨b12.1.1, b12.1.2, ql.1.2.2⟩, fun t t0 t1 => ⟨?_, ?_⟩⟩
        · rw [b12.2 t t0 t1, (ql.2 t t0 t1).1]
          by_cases y : t = T
          · rw [if_pos y, y, hb, hs, if_pos ⟨by omega, rfl, hl⟩]
          · rw [if_neg y]; simp only [lt t y]
        · rw [(ql.2 t t0 t1).2]
          by_cases y : t = T
          · rw [y, hb, hs, if_neg (fun w => by omega), if_neg (fun w => absurd w.2.1 (by decide))]
          · simp only [lt t y]
      · rw [if_neg z]
        refine ⟨ql.1, fun t t0 t1 => ⟨?_, ?_⟩⟩
        · rw [(ql.2 t t0 t1).1]
          by_cases y : t = T
          · rw [y, hb, hl, if_neg (fun w => by omega), if_neg (fun w => z w.2.2.symm)]
          · simp only [lt t y]
        · rw [(ql.2 t t0 t1).2]
          by_cases y : t = T
          · rw [y, hb, hl, if_neg (fun w => by omega), if_neg (fun w => z w.2.2.symm)]
          · simp only [lt t y]
  · have ne : ¬ (1 : Int) = 0 := by decide
    have v2 : clH h Q T lab 1 Q 2 = h Q 2 := by unfold clH; rw [if_neg ne, hput_ne1 (by omega), hput_ne2 (by decide)]
    have v3 : clH h Q T lab 1 Q 3 = i_or (h Q 3) (i_shl 1 T) := by unfold clH; rw [if_neg ne, hput_ne1 (by omega), hput_eq]
    have v13 : ∀ l, clH h Q T lab 1 (Q + 13) l = if l = lab then i_or (h (Q + 13) lab) (i_shl 1 T) else h (Q + 13) l := fun l => by
      unfold clH
      rw [if_neg ne]
      by_cases z : l = lab
      · rw [if_pos z, z, hput_eq]
      · rw [if_neg z, hput_ne2 z, hput_ne1 (by omega)]
    have v12 : ∀ l, clH h Q T lab 1 (Q + 12) l = h (Q + 12) l := fun l => by unfold clH; rw [if_neg ne, hput_ne1 (by omega), hput_ne1 (by omega)]
    rw [v2, v3]
    refine ⟨m2, b3.1, fun t t0 t1 => ⟨?_, ?_⟩, fun l j0 j1 => ?_⟩
    · rw [(mt t t0 t1).1]
      by_cases z : t = T
      · rw [z, hb, hs, if_neg (fun w => by omega), if_neg (fun w => absurd w.2 (by decide))]
      · simp only [lt t z]
    · rw [b3.2 t t0 t1, (mt t t0 t1).2]
      by_cases z : t = T
      · rw [if_pos z, z, hb, hs, if_pos ⟨by omega, rfl⟩]
      · rw [if_neg z]; simp only [lt t z]
    · have ql := ml l j0 j1
      rw [v12, v13]
      by_cases z : l = lab
      · subst z
        rw [if_pos rfl]
        refine ⟨⟨ql.1.1, ql.1.2.1, b13.1⟩, fun t t0 t1 => ⟨?_, ?_⟩⟩
        · rw [(ql.2 t t0 t1).1]
          by_cases y : t = T
          · rw [y, hb, hs, if_neg (fun w => by omega), if_neg (fun w => absurd w.2.1 (by decide))]
          · simp only [lt t y]
        · rw [b13.2 t t0 t1, (ql.2 t t0 t1).2]
          by_cases y : t = T
          · rw [if_pos y, y, hb, hs, if_pos ⟨by omega, rfl, hl⟩]
          · rw [if_neg y]; simp only [lt t y]
      · rw [if_neg z]
        refine ⟨ql.1, fun t t0 t1 => ⟨?_, ?_⟩⟩
        · rw [(ql.2 t t0 t1).1]
          by_cases y : t = T
          · rw [y, hb, hl, if_neg (fun w => by omega), if_neg (fun w => z w.2.2.symm)]
          · simp only [lt t y]
        · rw [(ql.2 t t0 t1).2]
          by_cases y : t = T
          · rw [y, hb, hl, if_neg (fun w => by omega), if_neg (fun w => z w.2.2.symm)]
          · simp only [lt t y]
end
