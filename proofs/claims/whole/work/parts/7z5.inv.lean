/-! what holds between calls -/
section
variable {h h' : Hp} {P n o8 : Int} {G : Gm} {row : Int → Int}
/-- what the class keeps is right -/
def Kn (h : Hp) (P : Int) (G : Gm) (o8 n : Int) (row : Int → Int) : Prop := (0 ≤ h 0 17 ∧ h 0 17 < 512) ∧ (bit (h 0 17) 6 = 1 → CntOK h P G o8 n row) ∧ (bit (h 0 17) 8 = 1 → FndOK h G o8 n row) ∧ (bit (h 0 17) 7 = 1 → h 0 18 = sumV G o8 n row) ∧ (bit (h 0 17) 5 = 1 → LsI h 5 (mendL G o8 n row)) ∧ ∀ v : Nat, h P 5 = (v : Int) → (bitsN v).length ≤ 4 → ∀ m : Nat, m ≤ 4 → bit (h 0 17) m = 1 → LsI h m (sentL v G o8 m)
def IX (h : Hp) (P : Int) (G : Gm) (o8 n : Int) (row : Int → Int) (tl : Int) (tp : Int → Int) (wl : Int) (wd : Int → Int) (fk fp : Int) : Prop := BX h P G o8 n row ∧ Kn h P G o8 n row ∧ TapX h tl tp ∧ TolX h wl wd ∧ h 7 0 = fk ∧ h 7 1 = fp
def IM (h : Hp) (G : Gm) (o8 n : Int) (row : Int → Int) (tl : Int) (tp : Int → Int) (wl : Int) (wd : Int → Int) (fk fp : Int) : Prop := BM h G o8 n row ∧ TapM h tl tp ∧ TolM h wl wd ∧ SShp h ∧ h 121 59 = 156 ∧ h 121 27 = fk ∧ h 121 28 = fp
def Inv (h : Hp) : Prop := ∃ (P : Int) (G : Gm) (o8 n : Int) (row : Int → Int) (tl : Int) (tp : Int → Int) (wl : Int) (wd : Int → Int) (fk fp : Int), EnX G ∧ IX h P G o8 n row tl tp wl wd fk fp ∧ IM h G o8 n row tl tp wl wd fk fp
def Lo (h h' : Hp) : Prop := ∀ c s, c < 121 → h' c s = h c s
def Hi (h h' : Hp) : Prop := ∀ c s, 121 ≤ c → h' c s = h c s
theorem BX_lo (B : BX h P G o8 n row) (F : Lo h h') : BX h' P G o8 n row := by
  have hP := bx_P B
  obtain ⟨S, X, L⟩ := B
  refine ⟨ShX_fr S (fun c s _ _ _ a4 => F c s (by omega)), ?_, LetX_fr L (fun c s _ _ _ a4 => F c s (by omega))⟩
  obtain ⟨_, x15, x16, gs, R, x⟩ := X
  have e : ∀ k s, 0 ≤ k → k < 14 → h' (P + k) s = h (P + k) s := fun k s k0 k1 => F (P + k) s (by omega)
  have eP : ∀ s, h' P s = h P s := fun s => F P s (by omega)
  refine ⟨hP, by rw [F 0 15 (by decide)]; exact x15, by rw [F 0 16 (by decide)]; exact x16, ?_, RepX_eq R e, ?_⟩
  · have eQ : ∀ s, h' (200 - P) s = h (200 - P) s := fun s => F _ s (by omega)
    unfold GShp at gs ⊢
    simp only [eQ]
    exact gs
  · simp only [eP]
    exact x
theorem CntOK_eq (hP : P = 93 ∨ P = 107) (C : CntOK h P G o8 n row) (e21 : ∀ s, s < 4 → h' 21 s = h 21 s) (e36 : ∀ s, h' 36 s = h 36 s) (e37 : ∀ s, h' 37 s = h 37 s) (eP : ∀ s, h' (P + 13) s = h (P + 13) s) : CntOK h' P G o8 n row := by
  obtain ⟨c0, c1, c2, c3, cT⟩ := C
  exact ⟨by rw [e21 0 (by decide)]; exact c0, by rw [e21 1 (by decide)]; exact c1, by rw [e21 2 (by decide)]; exact c2, by rw [e21 3 (by decide)]; exact c3, Tab_eq cT (funext e36) (funext e37) (funext eP)⟩
theorem LsI_eq {b : Int} {D : List Int} (L : LsI h b D) (e92 : h' 92 b = h 92 b) (e : ∀ s, h' (86 + b) s = h (86 + b) s) : LsI h' b D := by
  unfold LsI at L ⊢
  rw [e92]
  simp only [e]
  exact L
theorem Kn_lo (hP : P = 93 ∨ P = 107) (K : Kn h P G o8 n row) (F : Lo h h') : Kn h' P G o8 n row := by
  obtain ⟨k0, k6, k8, k7, k5, kL⟩ := K
  unfold Kn
  rw [F 0 17 (by decide), F 0 18 (by decide), F P 5 (by omega)]
  refine ⟨k0, fun z => CntOK_eq hP (k6 z) (fun s _ => F 21 s (by decide)) (fun s => F 36 s (by decide)) (fun s => F 37 s (by decide)) (fun s => F _ s (by omega)), fun z => FndOK_eq (fun c s a b => F c s (by omega)) (k8 z), k7, fun z => LsI_eq (k5 z) (F 92 5 (by decide)) (fun s => F _ s (by decide)), fun v hv hb m hm z => LsI_eq (kL v hv hb m hm z) (F 92 m (by decide)) (fun s => F _ s (by omega))⟩
variable {tl : Int} {tp : Int → Int} {wl : Int} {wd : Int → Int} {fk fp : Int}
theorem TapX_eq (T : TapX h tl tp) (e1 : h' 1 1 = h 1 1) (e2 : ∀ i, h' 2 i = h 2 i) : TapX h' tl tp := by
  unfold TapX at T ⊢
  rw [e1]
  simp only [e2]
  exact T
theorem TolX_eq (T : TolX h wl wd) (e1 : h' 3 1 = h 3 1) (e2 : ∀ i, h' 4 i = h 4 i) : TolX h' wl wd := by
  unfold TolX at T ⊢
  rw [e1]
  simp only [e2]
  exact T
theorem TapM_eq (T : TapM h tl tp) (e1 : h' 121 20 = h 121 20) (e2 : ∀ i, h' 135 i = h 135 i) : TapM h' tl tp := by
  unfold TapM at T ⊢
  rw [e1]
  simp only [e2]
  exact T
theorem TolM_eq (T : TolM h wl wd) (e1 : h' 121 57 = h 121 57) (e56 : h' 121 56 = h 121 56) (e2 : ∀ i, h' 155 i = h 155 i) : TolM h' wl wd := by
  unfold TolM at T ⊢
  rw [e1, e56]
  simp only [e2]
  exact T
theorem IX_lo (I : IX h P G o8 n row tl tp wl wd fk fp) (F : Lo h h') : IX h' P G o8 n row tl tp wl wd fk fp := by
  obtain ⟨B, K, T, W, f0, f1⟩ := I
  exact ⟨BX_lo B F, Kn_lo (bx_P B) K F, TapX_eq T (F 1 1 (by decide)) (fun i => F 2 i (by decide)), TolX_eq W (F 3 1 (by decide)) (fun i => F 4 i (by decide)), by rw [F 7 0 (by decide)]; exact f0, by rw [F 7 1 (by decide)]; exact f1⟩
/-- what calls of the reference leave alone -/
theorem IM_fr (I : IM h G o8 n row tl tp wl wd fk fp) (e1 : ∀ s, (s ≤ 21 ∨ (27 ≤ s ∧ s ≤ 33) ∨ (36 ≤ s ∧ s ≤ 44) ∨ (49 ≤ s ∧ s ≤ 57) ∨ s = 59) → h' 121 s = h 121 s) (ec : ∀ c s, ((122 ≤ c ∧ c ≤ 135) ∨ c = 137 ∨ (139 ≤ c ∧ c ≤ 143) ∨ c = 155) → h' c s = h c s) : IM h' G o8 n row tl tp wl wd fk fp := by
  obtain ⟨B, T, W, S, e59, f0, f1⟩ := I
  refine ⟨BM_eq B (fun s z => e1 s (by omega)) (fun c s z => ec c s (by omega)), TapM_eq T (e1 20 (by decide)) (fun i => ec 135 i (by decide)), TolM_eq W (e1 57 (by decide)) (e1 56 (by decide)) (fun i => ec 155 i (by decide)), fun q hq => ?_, by rw [e1 59 (by decide)]; exact e59, by rw [e1 27 (by decide)]; exact f0, by rw [e1 28 (by decide)]; exact f1⟩
  have : ∀ q ∈ ssL, (49 ≤ q.1 ∧ q.1 ≤ 57) := by decide
  have := this q hq
  rw [e1 q.1 (by omega)]
  exact S q hq
theorem IM_hi (I : IM h G o8 n row tl tp wl wd fk fp) (F : Hi h h') : IM h' G o8 n row tl tp wl wd fk fp := IM_fr I (fun s _ => F 121 s (by decide)) (fun c s _ => F c s (by omega))
theorem IM_lk (I : IM h G o8 n row tl tp wl wd fk fp) (F : Lk h h') : IM h' G o8 n row tl tp wl wd fk fp := IM_fr I (fun s z => F 121 s (Or.inr (by omega)) (by decide) (by decide) (by decide) (by decide) (by decide)) (fun c s z => F c s (Or.inl (by omega)) (by omega) (by omega) (by omega) (by omega) (by omega))
theorem IM_lk2 (I : IM h G o8 n row tl tp wl wd fk fp) (F : Lk2 h h') : IM h' G o8 n row tl tp wl wd fk fp := IM_fr I (fun s z => F 121 s (Or.inr (by omega)) (by decide) (by decide) (by decide) (by decide) (by decide)) (fun c s z => F c s (Or.inl (by omega)) (by omega) (by omega) (by omega) (by omega) (by omega))
theorem IM_lyf (I : IM h G o8 n row tl tp wl wd fk fp) (F : LyF h h') : IM h' G o8 n row tl tp wl wd fk fp := IM_fr I (fun s z => F 121 s (Or.inr (by omega)) (by decide) (by decide)) (fun c s z => F c s (Or.inl (by omega)) (by omega) (by omega))
theorem Lk.lo (F : Lk h h') : Lo h h' := fun c s z => F c s (Or.inl (by omega)) (by omega) (by omega) (by omega) (by omega) (by omega)
theorem Lk2.lo (F : Lk2 h h') : Lo h h' := fun c s z => F c s (Or.inl (by omega)) (by omega) (by omega) (by omega) (by omega) (by omega)
theorem LyF.lo (F : LyF h h') : Lo h h' := fun c s z => F c s (Or.inl (by omega)) (by omega) (by omega)
theorem Vol.hi (F : Vol h h') : Hi h h' := fun c s z => F c s (vol93 (by omega))
/-- the class's calls that ask -/
theorem IX_mk (I : IX h P G o8 n row tl tp wl wd fk fp) (V : Vol h h') (lo : ∀ c s, (c = 1 ∨ c = 2 ∨ c = 3 ∨ c = 4 ∨ c = 7) → h' c s = h c s) (K : Kn h' P G o8 n row) : IX h' P G o8 n row tl tp wl wd fk fp := by
  obtain ⟨B, _, T, W, f0, f1⟩ := I
  exact ⟨BX_vol V B, K, TapX_eq T (lo 1 1 (by decide)) (fun i => lo 2 i (by decide)), TolX_eq W (lo 3 1 (by decide)) (fun i => lo 4 i (by decide)), by rw [lo 7 0 (by decide)]; exact f0, by rw [lo 7 1 (by decide)]; exact f1⟩
theorem orB {x b : Int} (k0 : 0 ≤ x) (k1 : x < 512) (b0 : 0 ≤ b) (b1 : b < 9) : (0 ≤ i_or x (i_shl 1 b) ∧ i_or x (i_shl 1 b) < 512) ∧ ∀ t, 0 ≤ t → t < 9 → bit (i_or x (i_shl 1 b)) t = if t = b then 1 else bit x t := by
  have o := or1_in (x := x) (t := b) (n := 9) k0 (by decide) (by decide) (by rw [show (((2 ^ (9 : Int).toNat : Nat)) : Int) = 512 by decide]; exact k1) b0 b1
  rw [show (((2 ^ (9 : Int).toNat : Nat)) : Int) = 512 by decide] at o
  exact ⟨o, fun t t0 t1 => bit_or1 k0 (by omega) b0 (by omega) t0 (by omega)⟩
theorem Kn_cnc (hP : P = 93 ∨ P = 107) (K : Kn h P G o8 n row) (F : CnC h h' P G o8 n row) : Kn h' P G o8 n row := by
  rcases F with rfl | ⟨F, C⟩
  · exact K
  · obtain ⟨k0, k6, k8, k7, k5, kL⟩ := K
    have o := orB (b := 6) k0.1 k0.2 (by decide) (by decide)
    rw [show i_shl 1 6 = 64 by decide] at o
    have e : ∀ c s, c ≠ 36 → c ≠ 37 → c ≠ 21 → (c ≠ 0 ∨ s ≠ 17) → h' c s = h c s := fun c s a b d e => F.1 c s a b (Or.inl d) e
    have eb : ∀ t, 0 ≤ t → t < 9 → t ≠ 6 → bit (h' 0 17) t = bit (h 0 17) t := fun t t0 t1 z => by rw [F.2, o.2 t t0 t1, if_neg z]
    refine ⟨by rw [F.2]; exact o.1, fun _ => C, fun z => ?_, fun z => ?_, fun z => ?_, fun v hv hb m hm z => ?_⟩
    · rw [eb 8 (by decide) (by decide) (by decide)] at z
      exact FndOK_eq (fun c s a b => e c s (by omega) (by omega) (by omega) (by omega)) (k8 z)
    · rw [eb 7 (by decide) (by decide) (by decide)] at z
      rw [e 0 18 (by decide) (by decide) (by decide) (by decide)]; exact k7 z
    · rw [eb 5 (by decide) (by decide) (by decide)] at z
      exact LsI_eq (k5 z) (e 92 5 (by omega) (by omega) (by omega) (by omega)) (fun s => e _ s (by omega) (by omega) (by omega) (by omega))
    · rw [eb m (by omega) (by omega) (by omega)] at z
      rw [e P 5 (by omega) (by omega) (by omega) (by omega)] at hv
      exact LsI_eq (kL v hv hb m hm z) (e 92 m (by omega) (by omega) (by omega) (by omega)) (fun s => e _ s (by omega) (by omega) (by omega) (by omega))
theorem Kn_chf (hP : P = 93 ∨ P = 107) (K : Kn h P G o8 n row) (F : ChF 38 h h') : Kn h' P G o8 n row := by
  obtain ⟨k0, k6, k8, k7, k5, kL⟩ := K
  have e : ∀ c s, c ≠ 38 → c ≠ 53 → c ≠ 54 → h' c s = h c s := fun c s a b d => F c s (Or.inl a) (by omega) (by omega)
  unfold Kn
  rw [e 0 17 (by decide) (by decide) (by decide), e 0 18 (by decide) (by decide) (by decide), e P 5 (by omega) (by omega) (by omega)]
  exact ⟨k0, fun z => CntOK_eq hP (k6 z) (fun s _ => e 21 s (by decide) (by decide) (by decide)) (fun s => e 36 s (by decide) (by decide) (by decide)) (fun s => e 37 s (by decide) (by decide) (by decide)) (fun s => e _ s (by omega) (by omega) (by omega)), fun z => FndOK_eq (fun c s a b => e c s (by omega) (by omega) (by omega)) (k8 z), k7, fun z => LsI_eq (k5 z) (e 92 5 (by decide) (by decide) (by decide)) (fun s => e _ s (by decide) (by decide) (by decide)), fun v hv hb m hm z => LsI_eq (kL v hv hb m hm z) (e 92 m (by decide) (by decide) (by decide)) (fun s => e _ s (by omega) (by omega) (by omega))⟩
theorem Kn_smf (hP : P = 93 ∨ P = 107) (K : Kn h P G o8 n row) (F : h' = h ∨ (SmF h h' ∧ h' 0 18 = sumV G o8 n row)) : Kn h' P G o8 n row := by
  rcases F with rfl | ⟨F, C⟩
  · exact K
  · obtain ⟨k0, k6, k8, k7, k5, kL⟩ := K
    have o := orB (b := 7) k0.1 k0.2 (by decide) (by decide)
    rw [show i_shl 1 7 = 128 by decide] at o
    have e : ∀ c s, c ≠ 38 → c ≠ 53 → c ≠ 54 → c ≠ 0 → h' c s = h c s := fun c s a b d e => F.1 c s (Or.inl a) b d (Or.inl e)
    have eb : ∀ t, 0 ≤ t → t < 9 → t ≠ 7 → bit (h' 0 17) t = bit (h 0 17) t := fun t t0 t1 z => by rw [F.2, o.2 t t0 t1, if_neg z]
    refine ⟨by rw [F.2]; exact o.1, fun z => ?_, fun z => ?_, fun _ => C, fun z => ?_, fun v hv hb m hm z => ?_⟩
    · rw [eb 6 (by decide) (by decide) (by decide)] at z
      exact CntOK_eq hP (k6 z) (fun s _ => e 21 s (by decide) (by decide) (by decide) (by decide)) (fun s => e 36 s (by decide) (by decide) (by decide) (by decide)) (fun s => e 37 s (by decide) (by decide) (by decide) (by decide)) (fun s => e _ s (by omega) (by omega) (by omega) (by omega))
    · rw [eb 8 (by decide) (by decide) (by decide)] at z
      exact FndOK_eq (fun c s a b => e c s (by omega) (by omega) (by omega) (by omega)) (k8 z)
    · rw [eb 5 (by decide) (by decide) (by decide)] at z
      exact LsI_eq (k5 z) (e 92 5 (by decide) (by decide) (by decide) (by decide)) (fun s => e _ s (by decide) (by decide) (by decide) (by decide))
    · rw [eb m (by omega) (by omega) (by omega)] at z
      rw [e P 5 (by omega) (by omega) (by omega) (by omega)] at hv
      exact LsI_eq (kL v hv hb m hm z) (e 92 m (by decide) (by decide) (by decide) (by decide)) (fun s => e _ s (by omega) (by omega) (by omega) (by omega))
theorem Kn_lkk {b : Int} (hP : P = 93 ∨ P = 107) (K : Kn h P G o8 n row) (b0 : 0 ≤ b) (b1 : b ≤ 5) (F : LkK b h h') (c5 : b = 5 → LsI h' 5 (mendL G o8 n row)) (cm : ∀ v : Nat, h P 5 = (v : Int) → ∀ m : Nat, b = m → m ≤ 4 → LsI h' m (sentL v G o8 m)) : Kn h' P G o8 n row := by
  obtain ⟨k0, k6, k8, k7, k5, kL⟩ := K
  have o := orB (b := b) k0.1 k0.2 (by omega) (by omega)
  have e : ∀ c s, c ≠ 38 → c ≠ 53 → c ≠ 54 → c ≠ 18 → c ≠ 19 → c ≠ 20 → (c ≠ 92 ∨ s ≠ b) → c ≠ 86 + b → (c ≠ 0 ∨ s ≠ 17) → h' c s = h c s := fun c s a1 a2 a3 a4 a5 a6 a7 a8 a9 => F.1 c s (Or.inl a1) a2 a3 (Or.inl a4) a5 a6 a7 a8 a9
  have eb : ∀ t, 0 ≤ t → t < 9 → t ≠ b → bit (h' 0 17) t = bit (h 0 17) t := fun t t0 t1 z => by rw [F.2, o.2 t t0 t1, if_neg z]
  refine ⟨by rw [F.2]; exact o.1, fun z => ?_, fun z => ?_, fun z => ?_, fun z => ?_, fun v hv hb m hm z => ?_⟩
  · rw [eb 6 (by decide) (by decide) (by omega)] at z
    exact CntOK_eq hP (k6 z) (fun s _ => e 21 s (by omega) (by omega) (by omega) (by omega) (by omega) (by omega) (by omega) (by omega) (by omega)) (fun s => e 36 s (by omega) (by omega) (by omega) (by omega) (by omega) (by omega) (by omega) (by omega) (by omega)) (fun s => e 37 s (by omega) (by omega) (by omega) (by omega) (by omega) (by omega) (by omega) (by omega) (by omega)) (fun s => e _ s (by omega) (by omega) (by omega) (by omega) (by omega) (by omega) (by omega) (by omega) (by omega))
  · rw [eb 8 (by decide) (by decide) (by omega)] at z
    exact FndOK_eq (fun c s a b => e c s (by omega) (by omega) (by omega) (by omega) (by omega) (by omega) (by omega) (by omega) (by omega)) (k8 z)
  · rw [eb 7 (by decide) (by decide) (by omega)] at z
    rw [e 0 18 (by omega) (by omega) (by omega) (by omega) (by omega) (by omega) (by omega) (by omega) (by omega)]; exact k7 z
  · by_cases hb : b = 5
    · exact c5 hb
    · rw [eb 5 (by decide) (by decide) (by omega)] at z
      exact LsI_eq (k5 z) (e 92 5 (by omega) (by omega) (by omega) (by omega) (by omega) (by omega) (by omega) (by omega) (by omega)) (fun s => e _ s (by omega) (by omega) (by omega) (by omega) (by omega) (by omega) (by omega) (by omega) (by omega))
  · rw [e P 5 (by omega) (by omega) (by omega) (by omega) (by omega) (by omega) (by omega) (by omega) (by omega)] at hv
    by_cases hbm : b = m
    · exact cm v hv m hbm hm
    · rw [eb m (by omega) (by omega) (by omega)] at z
      exact LsI_eq (kL v hv hb m hm z) (e 92 m (by omega) (by omega) (by omega) (by omega) (by omega) (by omega) (by omega) (by omega) (by omega)) (fun s => e _ s (by omega) (by omega) (by omega) (by omega) (by omega) (by omega) (by omega) (by omega) (by omega))
theorem Kn_xa (hP : P = 93 ∨ P = 107) (K : Kn h P G o8 n row) (A : XA h h' P G o8 n row) : Kn h' P G o8 n row := by
  obtain ⟨k0, k6, k8, k7, k5, kL⟩ := K
  obtain ⟨⟨V, F⟩, q0, q6, q8, eb⟩ := A
  have e : ∀ c s, (c ≠ 0 ∨ s ≠ 17) → c ≠ 21 → c ≠ 36 → c ≠ 37 → (c < 55 ∨ 71 < c) → h' c s = h c s := fun c s a b d e f => F c s a (Or.inl b) d e f
  refine ⟨q0, q6, q8, fun z => ?_, fun z => ?_, fun v hv hb m hm z => ?_⟩
  · rw [eb 7 (by decide) (by decide) (by decide) (by decide)] at z
    rw [e 0 18 (by omega) (by omega) (by omega) (by omega) (by omega)]; exact k7 z
  · rw [eb 5 (by decide) (by decide) (by decide) (by decide)] at z
    exact LsI_eq (k5 z) (e 92 5 (by omega) (by omega) (by omega) (by omega) (by omega)) (fun s => e _ s (by omega) (by omega) (by omega) (by omega) (by omega))
  · rw [eb m (by omega) (by omega) (by omega) (by omega)] at z
    rw [e P 5 (by omega) (by omega) (by omega) (by omega) (by omega)] at hv
    exact LsI_eq (kL v hv hb m hm z) (e 92 m (by omega) (by omega) (by omega) (by omega) (by omega)) (fun s => e _ s (by omega) (by omega) (by omega) (by omega) (by omega))
/-- nothing is kept -/
theorem Kn_0 (h0 : h 0 17 = 0) : Kn h P G o8 n row := by
  unfold Kn
  rw [h0]
  have b : ∀ t, 0 ≤ t → t < 9 → bit 0 t ≠ 1 := fun t t0 t1 => by rw [bit_0 t0 (by omega)]; decide
  exact ⟨by decide, fun z => absurd z (b 6 (by decide) (by decide)), fun z => absurd z (b 8 (by decide) (by decide)), fun z => absurd z (b 7 (by decide) (by decide)), fun z => absurd z (b 5 (by decide) (by decide)), fun v hv hb m hm z => absurd z (b m (by omega) (by omega))⟩
end
