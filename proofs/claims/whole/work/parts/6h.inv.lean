/-! the class: what holds between calls; the chart of numbers -/
def shX : List (Int × Int × Int) := [(0, 0, 1), (0, 1, 3), (0, 2, 5), (0, 3, 7), (0, 4, 10), (0, 5, 16), (0, 6, 17), (0, 7, 18), (0, 8, 21), (0, 9, 38), (0, 10, 55), (0, 11, 59), (0, 12, 72), (0, 13, 85), (0, 14, 92),
  (1, 0, 2), (3, 0, 4), (5, 0, 6), (10, 5, 13), (10, 6, 14), (10, 7, 15), (16, 0, 5), (17, 0, 5), (18, 1, 19), (18, 2, 20), (21, 4, 36), (21, 5, 37), (38, 4, 53), (38, 5, 54), (55, 4, 56), (55, 5, 57), (55, 6, 58),
  (59, 4, 60), (59, 5, 61), (59, 6, 62), (59, 7, 63), (59, 8, 64), (59, 9, 65), (59, 10, 67), (59, 11, 69), (59, 12, 70), (59, 13, 71), (65, 0, 66), (67, 0, 68),
  (72, 4, 73), (72, 5, 74), (72, 6, 75), (72, 7, 76), (72, 8, 77), (72, 9, 78), (72, 10, 80), (72, 11, 82), (72, 12, 83), (72, 13, 84), (78, 0, 79), (80, 0, 81), (85, 0, 86), (85, 1, 87), (85, 2, 88), (85, 3, 89), (85, 4, 90), (85, 5, 91)]
def ShX (h : Hp) : Prop := ∀ q ∈ shX, h q.1 q.2.1 = q.2.2
theorem sx_at {h : Hp} (S : ShX h) {a b c : Int} (hk : (a, b, c) ∈ shX) : h a b = c := S (a, b, c) hk
/-- what calls may change without touching the grammar, the sentence and how the cells hang together -/
def volB (c s : Int) : Bool := (c == 0 && (s == 17 || s == 18)) || (c == 1 && s == 1) || c == 2 || (c == 3 && s == 1) || c == 4 || c == 7 || (c == 10 && decide (s < 5)) || c == 13 || c == 14 || c == 15 || (c == 18 && s == 0) || c == 19 || c == 20 || (c == 21 && decide (s < 4)) || c == 36 || c == 37 || (c == 38 && decide (s < 4)) || c == 53 || c == 54 || (c == 55 && (decide (s < 4) || decide (7 ≤ s))) || (decide (56 ≤ c) && decide (c ≤ 58)) || (c == 59 && (decide (s < 4) || decide (14 ≤ s))) || (decide (60 ≤ c) && decide (c ≤ 64)) || (c == 65 && s == 1) || c == 66 || (c == 67 && s == 1) || (decide (68 ≤ c) && decide (c ≤ 71)) || (c == 72 && (decide (s < 4) || decide (14 ≤ s))) || (decide (73 ≤ c) && decide (c ≤ 77)) || (c == 78 && s == 1) || c == 79 || (c == 80 && s == 1) || (decide (81 ≤ c) && decide (c ≤ 84)) || (decide (86 ≤ c) && decide (c ≤ 92))
def Vol (h h' : Hp) : Prop := ∀ c s, volB c s = false → h' c s = h c s
theorem Vol.rf {h : Hp} : Vol h h := fun _ _ _ => rfl
theorem Vol.tr {a b c : Hp} (x : Vol a b) (y : Vol b c) : Vol a c := fun i s hv => by rw [y i s hv, x i s hv]
theorem ShX_vol {h h' : Hp} (V : Vol h h') (S : ShX h) : ShX h' := by
  intro q hq
  have : ∀ q ∈ shX, volB q.1 q.2.1 = false := by decide
  rw [V _ _ (this q hq)]
  exact S q hq
def ouB (ob : Int) : Int → Bool := fun t => decide (bit ob t = 1)
/-- where a node's part of a tree ends -/
def EnR (G : Gm) : Prop := ∃ en : Int → Int, (∀ n, 0 ≤ n → n < nN G → (kd G n ≠ 0 → n + 1 ≤ en n) ∧ (kd G n = 0 → n + 1 ≤ c1 G n ∧ (c2 G n = -1 → en (c1 G n) ≤ en n) ∧ (c2 G n ≠ -1 → en (c1 G n) ≤ c2 G n ∧ en (c2 G n) ≤ en n))) ∧ ∀ t, 0 ≤ t → t < nT G → en (ft G t) ≤ ft G (t + 1)
def GIn (G : Gm) : Prop := WF G ∧ UpR G ∧ EnR G
def GX (h : Hp) (P : Int) (G : Gm) (ob : Int) : Prop :=
  (P = 93 ∨ P = 107) ∧ h 0 15 = P ∧ h 0 16 = 200 - P ∧ GShp h (200 - P) ∧ RepX h P G ∧ GIn G ∧ h P 4 = ob ∧ (0 ≤ ob ∧ ob < 256) ∧
  ((0 ≤ h P 2 ∧ h P 2 < 256) ∧ (0 ≤ h P 3 ∧ h P 3 < 256) ∧ ∀ t, 0 ≤ t → t < 8 → bit (h P 2) t = (if t < nT G ∧ sp G (ft G t) = 0 then 1 else 0) ∧ bit (h P 3) t = (if t < nT G ∧ sp G (ft G t) = 1 then 1 else 0)) ∧
  ((0 ≤ h P 5 ∧ h P 5 < 67108864) ∧ ∀ l, 0 ≤ l → l < 26 → (bit (h P 5) l = 1 ↔ ∃ n, 0 ≤ n ∧ n < nN G ∧ kd G n = 1 ∧ lb G n = l))
def BX (h : Hp) (P : Int) (G : Gm) (ob n : Int) (row : Int → Int) : Prop := ShX h ∧ GX h P G ob ∧ LetX h n row
theorem vol_ne {c s a : Int} (hv : volB c s = false) (h : ∀ s, volB a s = true) : c ≠ a := by
  intro e
  rw [e, h s] at hv
  cases hv
theorem vol_ns {c s a : Int} (hv : volB c s = false) (h : ∀ s, s < 4 → volB a s = true) : c ≠ a ∨ 4 ≤ s := by
  by_cases e : c = a
  · by_cases hs : s < 4
    · rw [e, h s hs] at hv
      cases hv
    · exact Or.inr (by omega)
  · exact Or.inl e
theorem vol_17 {c s : Int} (hv : volB c s = false) : c ≠ 0 ∨ s ≠ 17 := by
  by_cases e : c = 0
  · by_cases hs : s = 17
    · rw [e, hs] at hv
      exact absurd hv (by decide)
    · exact Or.inr hs
  · exact Or.inl e
theorem vol93 {c s : Int} (h0 : 93 ≤ c) : volB c s = false := by
  unfold volB
  simp only [Bool.or_eq_false_iff, Bool.and_eq_false_iff, beq_eq_false_iff_ne, decide_eq_false_iff_not]
  omega
section
variable {h h' : Hp} {P ob n : Int} {G : Gm} {row : Int → Int}
theorem RepX_eq (R : RepX h P G) (e : ∀ k s, 0 ≤ k → k < 14 → h' (P + k) s = h (P + k) s) : RepX h' P G := by
  have p0 : ∀ s, h' P s = h P s := fun s => by have := e 0 s (by omega) (by omega); rwa [show P + 0 = P by omega] at this
  unfold RepX GShp at R ⊢
  simp only [p0, e 1 _ (by omega) (by omega), e 2 _ (by omega) (by omega), e 3 _ (by omega) (by omega), e 4 _ (by omega) (by omega), e 5 _ (by omega) (by omega), e 6 _ (by omega) (by omega), e 7 _ (by omega) (by omega), e 8 _ (by omega) (by omega), e 9 _ (by omega) (by omega), e 10 _ (by omega) (by omega), e 11 _ (by omega) (by omega), e 12 _ (by omega) (by omega), e 13 _ (by omega) (by omega)]
  exact R
theorem LetX_vol (V : Vol h h') (X : LetX h n row) : LetX h' n row := by
  unfold LetX at X ⊢
  have e6 : ∀ i, h' 6 i = h 6 i := fun i => V 6 i (by unfold volB; simp)
  rw [V 5 0 (by decide), V 5 1 (by decide)]
  simp only [e6]
  exact X
theorem BX_vol (V : Vol h h') (B : BX h P G ob n row) : BX h' P G ob n row := by
  obtain ⟨S, X, L⟩ := B
  refine ⟨ShX_vol V S, ?_, LetX_vol V L⟩
  obtain ⟨hP, x15, x16, gs, R, x⟩ := X
  have hp : 93 ≤ P ∧ P ≤ 107 := by omega
  have e : ∀ c s, 93 ≤ c → h' c s = h c s := fun c s hc => V c s (vol93 hc)
  refine ⟨hP, by rw [V 0 15 (by decide)]; exact x15, by rw [V 0 16 (by decide)]; exact x16, ?_, RepX_eq R (fun k s k0 _ => e _ s (by omega)), ?_⟩
  · unfold GShp at gs ⊢
    simp only [e _ _ (show 93 ≤ 200 - P by omega)]
    exact gs
  · simp only [e P _ hp.1]
    exact x
theorem bx_sx (B : BX h P G ob n row) : ShX h := B.1
theorem bx_P (B : BX h P G ob n row) : P = 93 ∨ P = 107 := B.2.1.1
theorem bx_R (B : BX h P G ob n row) : RepX h P G := B.2.1.2.2.2.2.1
theorem bx_G (B : BX h P G ob n row) : GIn G := B.2.1.2.2.2.2.2.1
theorem bx_W (B : BX h P G ob n row) : WF G := B.2.1.2.2.2.2.2.1.1
theorem bx_L (B : BX h P G ob n row) : LetX h n row := B.2.2
theorem bx_15 (B : BX h P G ob n row) : h 0 15 = P := B.2.1.2.1
theorem bx_ob (B : BX h P G ob n row) : h P 4 = ob ∧ 0 ≤ ob ∧ ob < 256 := ⟨B.2.1.2.2.2.2.2.2.1, B.2.1.2.2.2.2.2.2.2.1⟩
theorem bx_n (B : BX h P G ob n row) : h 5 1 = n ∧ 0 ≤ n ∧ n ≤ 8 := ⟨B.2.2.2.1, B.2.2.2.2.1, B.2.2.2.2.2.1⟩
theorem bx_kP (B : BX h P G ob n row) : kK P = 3 := (GrO_k (bx_R B).1).1
theorem ouB_bit {t : Int} (o0 : 0 ≤ ob) (o1 : ob < 256) (t0 : 0 ≤ t) (t1 : t < 8) : bit ob t = if ouB ob t then 1 else 0 := by
  unfold ouB
  rcases bit_01 o0 o1 t0 t1 with z | z
  · rw [z]; rfl
  · rw [z]; rfl
/-- a chart that is to be filled: of the trees, letters and reckoning it is told -/
theorem Ev_mk (B : BX h P G ob n row) {o sz al b : Int} {A : Ag} {V : Int → Prop} (ho : ChO o) (b0 : 0 ≤ b) (b1 : b < 256) (s0 : 0 ≤ sz) (s1 : sz ≤ 8) (L : AgL A V)
    (hA : ∀ h', (∀ c s, c ≠ o → c ≠ o + 15 → c ≠ o + 16 → h' c s = h c s) → h' o 1 = sz → h' o 3 = al → AgR h' o A V) : Ev (hput (hput (hput (hput h o 0 P) o 2 b) o 1 sz) o 3 al) o P G sz (ouB b) A V := by
  have e : ∀ c s, c ≠ o → (hput (hput (hput (hput h o 0 P) o 2 b) o 1 sz) o 3 al) c s = h c s := fun c s hc => by
    rw [hput_ne1 hc, hput_ne1 hc, hput_ne1 hc, hput_ne1 hc]
  have e4 : ∀ s, 4 ≤ s → (hput (hput (hput (hput h o 0 P) o 2 b) o 1 sz) o 3 al) o s = h o s := fun s hs => by
    rw [hput_ne2 (by omega), hput_ne2 (by omega), hput_ne2 (by omega), hput_ne2 (by omega)]
  have q0 : (hput (hput (hput (hput h o 0 P) o 2 b) o 1 sz) o 3 al) o 0 = P := by
    rw [hput_ne2 (by decide), hput_ne2 (by decide), hput_ne2 (by decide), hput_eq]
  have q1 : (hput (hput (hput (hput h o 0 P) o 2 b) o 1 sz) o 3 al) o 1 = sz := by
    rw [hput_ne2 (by decide), hput_eq]
  have q2 : (hput (hput (hput (hput h o 0 P) o 2 b) o 1 sz) o 3 al) o 2 = b := by
    rw [hput_ne2 (by decide), hput_ne2 (by decide), hput_eq]
  have q3 : (hput (hput (hput (hput h o 0 P) o 2 b) o 1 sz) o 3 al) o 3 = al := by rw [hput_eq]
  have hP := bx_P B
  have S := bx_sx B
  have h45 : h o 4 = o + 15 ∧ h o 5 = o + 16 := by
    rcases ho with rfl | rfl
    · exact ⟨sx_at S (by decide), sx_at S (by decide)⟩
    · exact ⟨sx_at S (by decide), sx_at S (by decide)⟩
  have oP : ∀ k, 0 ≤ k → k < 14 → P + k ≠ o := by
    intro k k0 k1
    rcases ho with rfl | rfl <;> rcases hP with rfl | rfl <;> omega
  refine ⟨bx_W B, RepX_eq (bx_R B) (fun k s k0 k1 => e _ s (oP k k0 k1)), ⟨ho, q0, q1, by rw [e4 4 (by decide)]; exact h45.1, by rw [e4 5 (by decide)]; exact h45.2, s0, s1⟩, L, ?_, ?_⟩
  · intro h' hO
    apply hA
    · intro c s c0 c1 c2
      rw [hO c s c1 c2, e c s c0]
    · rw [hO o 1 (by omega) (by omega), q1]
    · rw [hO o 3 (by omega) (by omega), q3]
  · unfold OuS
    rw [q2]
    exact ⟨fun t t0 t1 => ouB_bit b0 b1 t0 t1, b0, b1⟩
/-- how a chart that was filled differs -/
def ChF (o : Int) (h h' : Hp) : Prop := ∀ c s, (c ≠ o ∨ 4 ≤ s) → c ≠ o + 15 → c ≠ o + 16 → h' c s = h c s
theorem ChF_of {o a b c d : Int} (F : Off o (hput (hput (hput (hput h o 0 a) o 2 b) o 1 c) o 3 d) h') : ChF o h h' := by
  intro x s hx h1 h2
  rw [F x s h1 h2]
  rcases hx with hx | hx
  · rw [hput_ne1 hx, hput_ne1 hx, hput_ne1 hx, hput_ne1 hx]
  · rw [hput_ne2 (by omega), hput_ne2 (by omega), hput_ne2 (by omega), hput_ne2 (by omega)]
theorem ChF.vol {o : Int} (ho : ChO o) (F : ChF o h h') : Vol h h' := by
  intro c s hv
  rcases ho with rfl | rfl
  · exact F c s (vol_ns hv (fun s hs => by unfold volB; simp [hs])) (vol_ne hv (fun s => by unfold volB; simp)) (vol_ne hv (fun s => by unfold volB; simp))
  · exact F c s (vol_ns hv (fun s hs => by unfold volB; simp [hs])) (vol_ne hv (fun s => by unfold volB; simp)) (vol_ne hv (fun s => by unfold volB; simp))
/-- the chart of numbers is right -/
def CntOK (h : Hp) (P : Int) (G : Gm) (ob n : Int) (row : Int → Int) : Prop := h 21 0 = P ∧ h 21 1 = n ∧ h 21 2 = ob ∧ h 21 3 = 16 ∧ Tab h 21 P G n (ouB ob) (agC row) (aFix G (ouB ob) (agC row)) dT
/-- a chart of numbers: filled with what is told -/
theorem fillC (B : BX h P G ob n row) {o b : Int} (ho : ChO o) (b0 : 0 ≤ b) (b1 : b < 256) : ∃ h', Ch_fill o P b n 16 h = some h' ∧ ChF o h h' ∧ (h' o 0 = P ∧ h' o 1 = n ∧ h' o 2 = b ∧ h' o 3 = 16) ∧ Ev h' o P G n (ouB b) (agC row) vC ∧ Tab h' o P G n (ouB b) (agC row) (aFix G (ouB b) (agC row)) dT := by
  have W := bx_W B
  have nn := bx_n B
  have E := Ev_mk B (o := o) (sz := n) (al := 16) (b := b) ho b0 b1 nn.2.1 nn.2.2 (agC_law row) (by
    intro h' hc e1 e3
    have o5 : o ≠ 5 ∧ o ≠ 6 ∧ o ≠ 16 := by rcases ho with rfl | rfl <;> decide
    have n5 : ∀ s, h' 5 s = h 5 s := fun s => hc 5 s (Ne.symm o5.1) (by rcases ho with rfl | rfl <;> decide) (by rcases ho with rfl | rfl <;> decide)
    have n6 : ∀ s, h' 6 s = h 6 s := fun s => hc 6 s (Ne.symm o5.2.1) (by rcases ho with rfl | rfl <;> decide) (by rcases ho with rfl | rfl <;> decide)
    have X := bx_L B
    have X' : LetX h' n row := by
      unfold LetX at X ⊢
      simp only [n5, n6]
      exact X
    exact agC_R X' (by rw [hc 16 0 (Ne.symm o5.2.2) (by rcases ho with rfl | rfl <;> decide) (by rcases ho with rfl | rfl <;> decide)]; exact sx_at (bx_sx B) (by decide)) e3 (by omega))
  obtain ⟨g, e, go, gE, gT⟩ := Ch_fill_ok ho E (aFix_AEq W (agC_law row) n) (bx_G B).2.1
  refine ⟨g, e, ChF_of go, ?_, gE, gT⟩
  have q3 : g o 3 = 16 := by rw [go o 3 (by omega) (by omega), hput_eq]
  have q1 : g o 1 = n := gE.2.2.1.2.2.1
  have q0 : g o 0 = P := gE.2.2.1.2.1
  have q2 : g o 2 = b := by rw [go o 2 (by omega) (by omega), hput_ne2 (by decide), hput_ne2 (by decide), hput_eq]
  exact ⟨q0, q1, q2, q3⟩
/-- the chart of numbers, kept or made -/
def CnF (h h' : Hp) : Prop := (∀ c s, c ≠ 36 → c ≠ 37 → (c ≠ 21 ∨ 4 ≤ s) → (c ≠ 0 ∨ s ≠ 17) → h' c s = h c s) ∧ h' 0 17 = i_or (h 0 17) 64
theorem CnF.vol (F : CnF h h') : Vol h h' := by
  intro c s hv
  exact F.1 c s (vol_ne hv (fun s => by unfold volB; simp)) (vol_ne hv (fun s => by unfold volB; simp)) (vol_ns hv (fun s hs => by unfold volB; simp [hs])) (vol_17 hv)
theorem Ev_cnt (B : BX h P G ob n row) (C : CntOK h P G ob n row) : Ev h 21 P G n (ouB ob) (agC row) vC := by
  have nn := bx_n B
  have oo := bx_ob B
  have S := bx_sx B
  refine ⟨bx_W B, bx_R B, ⟨Or.inl rfl, C.1, C.2.1, sx_at S (by decide), sx_at S (by decide), nn.2.1, nn.2.2⟩, agC_law row, ?_, ?_⟩
  · intro h' hO
    have X := bx_L B
    have n5 : ∀ s, h' 5 s = h 5 s := fun s => hO 5 s (by decide) (by decide)
    have n6 : ∀ s, h' 6 s = h 6 s := fun s => hO 6 s (by decide) (by decide)
    have X' : LetX h' n row := by
      unfold LetX at X ⊢
      simp only [n5, n6]
      exact X
    refine agC_R X' (by rw [hO 16 0 (by decide) (by decide)]; exact sx_at S (by decide)) (by rw [hO 21 3 (by decide) (by decide)]; exact C.2.2.2.1) (by rw [hO 21 1 (by decide) (by decide), C.2.1]; exact Int.le_refl _)
  · unfold OuS
    rw [C.2.2.1]
    exact ⟨fun t t0 t1 => ouB_bit oo.2.1 oo.2.2 t0 t1, oo.2.1, oo.2.2⟩
theorem Tab_eq {o sz : Int} {ou : Int → Bool} {A : Ag} {S : SV} {D : SD} (T : Tab h o P G sz ou A S D) (e1 : h' (o + 15) = h (o + 15)) (e2 : h' (o + 16) = h (o + 16)) (e3 : h' (P + 13) = h (P + 13)) : Tab h' o P G sz ou A S D := by
  unfold Tab tv at T ⊢
  rw [e1, e2, e3]
  exact T
theorem X_knowCounts_ok (B : BX h P G ob n row) (k0 : 0 ≤ h 0 17) (k1 : h 0 17 < 512) (hC : bit (h 0 17) 6 = 1 → CntOK h P G ob n row) : ∃ h', X_knowCounts 0 h = some h' ∧ CnF h h' ∧ CntOK h' P G ob n row := by
  have S := bx_sx B
  have oo := bx_ob B
  have nn := bx_n B
  have kP := bx_kP B
  have b6 := and_pow (x := h 0 17) (t := 6) k0 (by omega) (by decide) (by decide)
  rw [show (((2 ^ (6 : Int).toNat : Nat)) : Int) = 64 by decide] at b6
  have e17 : ∀ c s, (c ≠ 0 ∨ s ≠ 17) → hput h 0 17 (i_or (h 0 17) 64) c s = h c s := by
    intro c s hc
    rcases hc with hc | hc
    · exact hput_ne1 hc
    · exact hput_ne2 hc
  have V1 : Vol h (hput h 0 17 (i_or (h 0 17) 64)) := by
    intro c s hv
    exact e17 c s (vol_17 hv)
  have B1 := BX_vol V1 B
  unfold X_knowCounts X_learns X_learns_j14
  rw [if_pos (by decide), if_pos (by decide), if_pos (by decide)]
  simp only
  by_cases hz : i_and (h 0 17) 64 = 0
  · rw [if_pos hz, if_pos (Or.inr rfl), ob_some]
    simp only
    rw [if_neg (by decide), e17 0 15 (by decide), bx_15 B, if_pos kP, e17 0 2 (by decide), sx_at S (show (0, 2, 5) ∈ shX by decide), if_pos (by decide), e17 0 8 (by decide), sx_at S (show (0, 8, 21) ∈ shX by decide), if_pos (by decide), e17 P 4 (Or.inl (by have := bx_P B; omega)), oo.1, e17 5 1 (by decide), nn.1, e17 0 5 (by decide), sx_at S (show (0, 5, 16) ∈ shX by decide)]
    obtain ⟨g, e, gF, gq, gE, gT⟩ := fillC B1 (o := 21) (b := ob) (Or.inl rfl) oo.2.1 oo.2.2
    rw [e, ob_some]
    refine ⟨g, rfl, ⟨?_, ?_⟩, gq.1, gq.2.1, gq.2.2.1, gq.2.2.2, gT⟩
    · intro c s h1 h2 h3 h4
      rw [gF c s h3 h1 h2, e17 c s h4]
    · rw [gF 0 17 (by decide) (by decide) (by decide), hput_eq]
  · have h1 : bit (h 0 17) 6 = 1 := by
      rcases bit_z (x := h 0 17) (t := 6) k0 (by omega) (by decide) (by decide) with z | z
      · exact absurd (b6.mpr z) hz
      · exact z
    rw [if_neg hz, if_pos (Or.inl rfl), ob_some]
    simp only [if_true]
    obtain ⟨c0, c1, c2, c3, cT⟩ := hC h1
    refine ⟨_, rfl, ⟨fun c s _ _ _ h4 => e17 c s h4, by rw [hput_eq]⟩, by rw [e17 21 0 (by decide)]; exact c0, by rw [e17 21 1 (by decide)]; exact c1, by rw [e17 21 2 (by decide)]; exact c2, by rw [e17 21 3 (by decide)]; exact c3, ?_⟩
    have e36 : ∀ s, hput h 0 17 (i_or (h 0 17) 64) (21 + 15) s = h (21 + 15) s := fun s => e17 _ s (Or.inl (by decide))
    have e37 : ∀ s, hput h 0 17 (i_or (h 0 17) 64) (21 + 16) s = h (21 + 16) s := fun s => e17 _ s (Or.inl (by decide))
    have eP : ∀ s, hput h 0 17 (i_or (h 0 17) 64) (P + 13) s = h (P + 13) s := fun s => e17 _ s (Or.inl (by have := bx_P B; omega))
    exact Tab_eq cT (funext e36) (funext e37) (funext eP)
end
