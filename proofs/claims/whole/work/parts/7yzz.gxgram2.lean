/-! grammar(): the class, whole -/
section
variable {h h' r : Hp} {P Q tl T N n ob : Int} {tp row : Int → Int} {G : Gm} {dd : Int → Dv}
theorem gm_n (i m : Int) (h0 : i < 8) : gmX r Q i m = r (Q + (3 + i)) m := by unfold gmX; rw [if_pos h0]
theorem gm_8 (m : Int) : gmX r Q 8 m = r (Q + 2) m := by unfold gmX; rw [if_neg (by decide), if_pos rfl]
theorem gm_9 (m : Int) : gmX r Q 9 m = r (Q + 1) m := by unfold gmX; rw [if_neg (by decide), if_neg (by decide), if_pos rfl]
theorem gm_T : gmX r Q 10 0 = r Q 0 := by unfold gmX; rw [if_neg (by decide), if_neg (by decide), if_neg (by decide), if_pos rfl]
theorem gm_N : gmX r Q 10 1 = r Q 1 := by unfold gmX; rw [if_neg (by decide), if_neg (by decide), if_neg (by decide), if_neg (by decide)]
theorem gm_GOK (B : CB r Q T N) (X : TrL r Q T dd) (ok : ∀ t, 0 ≤ t → t < T → TOK (dd t)) : GOK (gmX r Q) dd := by
  obtain ⟨tt, x0, x1, nn, xT, rows⟩ := B
  unfold GOK
  simp only [nT, nN, ft, tr, gm_T, gm_N, gm_9, gm_8, x0, x1]
  refine ⟨tt, nn, X.1, xT, fun t t0 t1 => ?_⟩
  have u := X.2 t t0 t1
  exact ⟨Hd_eq _ _ _ u.1 (fun i m i0 i1 _ _ => gm_n i m i1), u.2.1, u.2.2, ok t t0 t1⟩
theorem gm_turn (m : Int) : turn (gmX r Q) m = tnX r Q m := by
  unfold turn tnX
  simp only [nd, ft, tr, gm_8, gm_9, gm_n _ _ (show (6 : Int) < 8 by decide)]
  rfl
theorem gm_RepX (O : GrO Q) (Gs : GShp r Q) (B : CB r Q T N) (M : MkI r Q T) (I : OrdI (tnX r Q) (r (Q + 11)) N N (fun _ => true)) : RepX r Q (gmX r Q) := by
  obtain ⟨tt, x0, x1, nn, xT, rows⟩ := B
  unfold RepX
  simp only [nT, nN, ft, tr, kd, lb, mk, c1, c2, up, nd, sp, gm_T, gm_N, gm_9, gm_8, gm_turn, gm_n _ _ (show (0 : Int) < 8 by decide), gm_n _ _ (show (1 : Int) < 8 by decide), gm_n _ _ (show (2 : Int) < 8 by decide), gm_n _ _ (show (3 : Int) < 8 by decide), gm_n _ _ (show (4 : Int) < 8 by decide), gm_n _ _ (show (5 : Int) < 8 by decide), gm_n _ _ (show (6 : Int) < 8 by decide), gm_n _ _ (show (7 : Int) < 8 by decide)]
  refine ⟨O, Gs, trivial, trivial, fun _ _ _ => trivial, fun m _ _ => ⟨trivial, rfl, rfl, rfl, rfl, rfl, rfl, rfl, rfl⟩, fun l l0 l1 t t0 t1 => ?_, fun l l0 l1 => (M.2.2.2 l l0 l1).1, fun k k0 k1 => ?_, fun m m0 m1 => ?_, fun k k' k0 k1 k2 => ?_⟩
  · rw [x0]
    exact (M.2.2.2 l l0 l1).2 t t0 t1
  · rw [x1] at k1 ⊢
    have := I.2.1 k k0 k1
    exact ⟨this.1, this.2.1⟩
  · rw [x1] at m1 ⊢
    exact I.2.2.1 m m0 m1 rfl
  · rw [x1] at k2
    exact I.2.2.2 k k' k0 k1 k2
theorem gm_bits (B : CB r Q T N) (M : MkI r Q T) (L : LB r Q N) : ((0 ≤ r Q 2 ∧ r Q 2 < 256) ∧ (0 ≤ r Q 3 ∧ r Q 3 < 256) ∧ ∀ t, 0 ≤ t → t < 8 → bit (r Q 2) t = (if t < nT (gmX r Q) ∧ sp (gmX r Q) (ft (gmX r Q) t) = 0 then 1 else 0) ∧ bit (r Q 3) t = (if t < nT (gmX r Q) ∧ sp (gmX r Q) (ft (gmX r Q) t) = 1 then 1 else 0)) ∧
    ((0 ≤ r Q 5 ∧ r Q 5 < 67108864) ∧ ∀ l, 0 ≤ l → l < 26 → (bit (r Q 5) l = 1 ↔ ∃ n, 0 ≤ n ∧ n < nN (gmX r Q) ∧ kd (gmX r Q) n = 1 ∧ lb (gmX r Q) n = l)) := by
  obtain ⟨tt, x0, x1, nn, xT, rows⟩ := B
  simp only [nT, nN, ft, kd, lb, sp, gm_T, gm_N, gm_9, gm_n _ _ (show (0 : Int) < 8 by decide), gm_n _ _ (show (1 : Int) < 8 by decide), gm_n _ _ (show (7 : Int) < 8 by decide), x0, x1]
  exact ⟨⟨M.1, M.2.1, M.2.2.1⟩, L⟩
theorem shX_cells : ∀ q ∈ shX, q.1 ≠ 7 ∧ (q.1 ≠ 1 ∨ q.2.1 ≠ 1) ∧ (q.1 ≠ 0 ∨ (q.2.1 ≠ 15 ∧ q.2.1 ≠ 16 ∧ q.2.1 ≠ 17)) ∧ q.1 < 93 := by decide
theorem ShX_fr (S : ShX h) (F : ∀ c s, c ≠ 7 → (c ≠ 1 ∨ s ≠ 1) → (c ≠ 0 ∨ (s ≠ 15 ∧ s ≠ 16 ∧ s ≠ 17)) → c < 93 → h' c s = h c s) : ShX h' := by
  intro q hq
  obtain ⟨a1, a2, a3, a4⟩ := shX_cells q hq
  rw [F _ _ a1 a2 a3 a4]
  exact S q hq
theorem LetX_fr (L : LetX h n row) (F : ∀ c s, c ≠ 7 → (c ≠ 1 ∨ s ≠ 1) → (c ≠ 0 ∨ (s ≠ 15 ∧ s ≠ 16 ∧ s ≠ 17)) → c < 93 → h' c s = h c s) : LetX h' n row := by
  have e5 : ∀ i, h' 5 i = h 5 i := fun i => F 5 i (by decide) (by omega) (by omega) (by decide)
  have e6 : ∀ i, h' 6 i = h 6 i := fun i => F 6 i (by decide) (by omega) (by omega) (by decide)
  unfold LetX at L ⊢
  simp only [e5, e6]
  exact L
theorem BX_fr (B : BX h P G ob n row) (hQ : Q = 200 - P) (F : ∀ c s, c ≠ 7 → (c ≠ 1 ∨ s ≠ 1) → (c < Q ∨ Q + 13 < c) → h' c s = h c s) (Gs : GShp h' Q) : BX h' P G ob n row := by
  have hP := bx_P B
  obtain ⟨S, X, L⟩ := B
  refine ⟨ShX_fr S (fun c s a1 a2 _ a4 => F c s a1 a2 (by omega)), ?_, LetX_fr L (fun c s a1 a2 _ a4 => F c s a1 a2 (by omega))⟩
  obtain ⟨_, x15, x16, gs, R, x⟩ := X
  have e : ∀ k s, 0 ≤ k → k < 14 → h' (P + k) s = h (P + k) s := fun k s k0 k1 => F (P + k) s (by omega) (by omega) (by omega)
  have eP : ∀ s, h' P s = h P s := fun s => by have := e 0 s (by omega) (by omega); rwa [show P + 0 = P by omega] at this
  refine ⟨hP, by rw [F 0 15 (by decide) (by decide) (by omega)]; exact x15, by rw [F 0 16 (by decide) (by decide) (by omega)]; exact x16, by rw [← hQ]; exact Gs, RepX_eq R e, ?_⟩
  simp only [eP]
  exact x
def ZRes (h h' : Hp) (P Q : Int) (G : Gm) (ob n : Int) (row : Int → Int) (v : Int) : (Int × Int) ⊕ (Int × Int × (Int → Dv)) → Prop
  | .inl z => v = -4 ∧ z.1 ≠ 0 ∧ h' 7 0 = z.1 ∧ h' 7 1 = z.2 ∧ BX h' P G ob n row ∧ ∀ c s, c ≠ 7 → (c ≠ 1 ∨ s ≠ 1) → (c < Q ∨ Q + 13 < c) → h' c s = h c s
  | .inr z => v = z.1 ∧ h' 7 0 = 0 ∧ h' 7 1 = -1 ∧ h' 0 17 = 0 ∧ (∀ c s, c ≠ 7 → (c ≠ 1 ∨ s ≠ 1) → (c ≠ 0 ∨ (s ≠ 15 ∧ s ≠ 16 ∧ s ≠ 17)) → (c < Q ∨ Q + 13 < c) → h' c s = h c s) ∧ ∃ G', BX h' Q G' 0 n row ∧ GOK G' z.2.2 ∧ nT G' = z.1 ∧ nN G' = z.2.1
theorem X_grammar_ok (B : BX h P G ob n row) (X : TapX h tl tp) : ∃ v h', X_grammar 0 h = some (v, h') ∧ h' 1 1 = 0 ∧ ZRes h h' P (200 - P) G ob n row v (gT tl tp 9 0 0 (blA tl tp 0) (fun _ => .zero)) := by
  have hP := bx_P B
  have S := bx_sx B
  generalize hQ : 200 - P = Q
  have O : GrO Q := by
    rcases hP with z | z
    · exact Or.inr (Or.inr (Or.inr (by omega)))
    · exact Or.inr (Or.inr (Or.inl (by omega)))
  have g0 := (GrO_k O).1
  have h03 : h 0 3 = 7 := sx_at S (by decide)
  have h00 : h 0 0 = 1 := sx_at S (by decide)
  have h016 : h 0 16 = Q := by rw [← hQ]; exact B.2.1.2.2.1
  have h015 : h 0 15 = P := bx_15 B
  have gs : GShp h Q := by rw [← hQ]; exact B.2.1.2.2.2.1
  obtain ⟨v, r, er, fr, Gs, Y⟩ := gReadText_ok O gs X (sx_at S (by decide))
  have r00 : r 0 0 = 1 := by rw [fr 0 0 (by decide) (by omega)]; exact h00
  unfold X_grammar
  rw [if_pos (by decide), h03, if_pos (by decide), h00, h016, er, ob_some]
  simp only
  rw [r00, if_pos (by decide)]
  cases hg : gT tl tp 9 0 0 (blA tl tp 0) (fun _ => .zero) with
  | inl z =>
    rw [hg] at Y
    obtain ⟨y1, y2, y3, y4⟩ := Y
    rw [if_pos y1]
    have F : ∀ c s, c ≠ 7 → (c ≠ 1 ∨ s ≠ 1) → (c < Q ∨ Q + 13 < c) → (hput r 1 1 0) c s = h c s := fun c s a1 a2 a3 => by rw [hput_no a2, fr c s a1 a3]
    have Gs' : GShp (hput r 1 1 0) Q := by
      have e : ∀ s, (hput r 1 1 0) Q s = r Q s := fun s => hput_ne1 (by omega)
      unfold GShp at Gs ⊢
      simp only [e]
      exact Gs
    exact ⟨_, _, rfl, hput_eq .., rfl, y2, by rw [hput_ne1 (by decide)]; exact y3, by rw [hput_ne1 (by decide)]; exact y4, BX_fr B hQ.symm F Gs', F⟩
  | inr z =>
    obtain ⟨T, N, dd⟩ := z
    have ok := gT_ok 9 0 0 (blA tl tp 0) (fun _ => .zero) T N dd (blA_le 0).1 (fun t t0 t1 => by omega) hg
    rw [hg] at Y
    obtain ⟨y1, y2, y3, yB, yL, yX, yM, yI, y4⟩ := Y
    simp only at yB yL yX yM yI
    have a15 : (hput r 1 1 0) 0 15 = P := by rw [hput_ne1 (by decide), fr 0 15 (by decide) (by omega)]; exact h015
    have a16 : (hput r 1 1 0) 0 16 = Q := by rw [hput_ne1 (by decide), fr 0 16 (by decide) (by omega)]; exact h016
    rw [if_neg (by rw [y1]; decide), a15, a16, if_pos (by omega)]
    have eR : ∀ c s, c ≠ 0 → (c ≠ 1 ∨ s ≠ 1) → (hput (hput (hput (hput r 1 1 0) 0 15 Q) 0 16 P) 0 17 0) c s = r c s := fun c s a1 a2 => by
      rw [hput_ne1 a1, hput_ne1 a1, hput_ne1 a1, hput_no a2]
    have e15 : (hput (hput (hput (hput r 1 1 0) 0 15 Q) 0 16 P) 0 17 0) 0 15 = Q := by rw [hput_ne2 (by decide), hput_ne2 (by decide), hput_eq]
    have e16 : (hput (hput (hput (hput r 1 1 0) 0 15 Q) 0 16 P) 0 17 0) 0 16 = P := by rw [hput_ne2 (by decide), hput_eq]
    have e17 : (hput (hput (hput (hput r 1 1 0) 0 15 Q) 0 16 P) 0 17 0) 0 17 = 0 := hput_eq ..
    have e11 : (hput (hput (hput (hput r 1 1 0) 0 15 Q) 0 16 P) 0 17 0) 1 1 = 0 := by rw [hput_ne1 (by decide), hput_ne1 (by decide), hput_ne1 (by decide), hput_eq]
    have F : ∀ c s, c ≠ 7 → (c ≠ 1 ∨ s ≠ 1) → (c ≠ 0 ∨ (s ≠ 15 ∧ s ≠ 16 ∧ s ≠ 17)) → (c < Q ∨ Q + 13 < c) → (hput (hput (hput (hput r 1 1 0) 0 15 Q) 0 16 P) 0 17 0) c s = h c s := fun c s a1 a2 a3 a4 => by
      rw [hput_no (by omega), hput_no (by omega), hput_no (by omega), hput_no a2, fr c s a1 a4]
    generalize hput (hput (hput (hput r 1 1 0) 0 15 Q) 0 16 P) 0 17 0 = h' at eR e15 e16 e17 e11 F ⊢
    have eQ : ∀ s, h' Q s = r Q s := fun s => eR Q s (by omega) (by omega)
    rw [e15, if_pos g0, eQ 0, yB.2.1]
    refine ⟨_, h', rfl, e11, rfl, by rw [eR 7 0 (by decide) (by decide)]; exact y2, by rw [eR 7 1 (by decide) (by decide)]; exact y3, e17, F, gmX r Q, ?_, gm_GOK yB yX ok, by rw [← yB.2.1]; exact gm_T, by rw [← yB.2.2.1]; exact gm_N⟩
    have gb := gm_bits yB yM yL
    refine ⟨ShX_fr S (fun c s a1 a2 a3 a4 => F c s a1 a2 a3 (by omega)), ⟨by omega, e15, by rw [e16]; omega, ?_, RepX_eq (gm_RepX O Gs yB yM yI) (fun k s k0 k1 => eR (Q + k) s (by omega) (by omega)), GOK_GIn (gm_GOK yB yX ok), by rw [eQ 4]; exact y4, by decide, ?_⟩, LetX_fr (bx_L B) (fun c s a1 a2 a3 a4 => F c s a1 a2 a3 (by omega))⟩
    · have gP := (bx_R B).2.1
      rw [show 200 - Q = P by omega]
      have e : ∀ s, h' P s = h P s := fun s => F P s (by omega) (by omega) (by omega) (by omega)
      unfold GShp at gP ⊢
      simp only [e]
      exact gP
    · simp only [eQ]
      exact gb
end
