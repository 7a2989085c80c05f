/-! the class: a host is put -/
def R9 (h g : Hp) : Prop := ∀ c s, (c ≠ 55 ∨ s ≠ 9) → g c s = h c s
def FF (h h' : Hp) : Prop := ∀ c s, (c ≠ 55 ∨ (s ≠ 3 ∧ s < 7)) → c ≠ 56 → c ≠ 57 → c ≠ 58 → (c ≠ 59 ∨ s ≠ 1) → c ≠ 60 → c ≠ 61 → c ≠ 62 → c ≠ 63 → c ≠ 64 → h' c s = h c s
theorem FF.rf {h : Hp} : FF h h := fun _ _ _ _ _ _ _ _ _ _ _ _ => rfl
theorem FF.tr {a b c : Hp} (x : FF a b) (y : FF b c) : FF a c := fun i s h1 h2 h3 h4 h5 h6 h7 h8 h9 h10 => by rw [y i s h1 h2 h3 h4 h5 h6 h7 h8 h9 h10, x i s h1 h2 h3 h4 h5 h6 h7 h8 h9 h10]
theorem R9.ff {h g : Hp} (r : R9 h g) : FF h g := fun c s h1 _ _ _ _ _ _ _ _ _ => r c s (h1.elim Or.inl (fun z => Or.inr (by omega)))
theorem FF_push {h g : Hp} (r : ∀ a i, (a ≠ 55 ∨ i ≠ 3) → a ≠ 56 → a ≠ 57 → a ≠ 58 → g a i = h a i) : FF h g := fun c s h1 h2 h3 h4 _ _ _ _ _ _ => r c s (h1.elim Or.inl (fun z => Or.inr z.1)) h2 h3 h4
theorem FF_pop {h g : Hp} (r : ∀ a x, (a ≠ 55 ∨ (x ≠ 3 ∧ x < 7)) → g a x = h a x) : FF h g := fun c s h1 _ _ _ _ _ _ _ _ _ => r c s h1
theorem FF_fw {h g : Hp} (r : FW 59 h g) : FF h g := fun c s _ _ _ _ h5 h6 h7 h8 h9 h10 => r c s h5 (by omega) (by omega) (by omega) (by omega) (by omega)
theorem vol_55 {c s : Int} (hv : volB c s = false) : (c ≠ 55 ∨ (s ≠ 3 ∧ s < 7)) ∧ (c ≠ 59 ∨ s ≠ 1) := by
  unfold volB at hv
  simp only [Bool.or_eq_false_iff, Bool.and_eq_false_iff, beq_eq_false_iff_ne, decide_eq_false_iff_not] at hv
  omega
theorem FF.vol {h g : Hp} (F : FF h g) : Vol h g := by
  intro c s hv
  have a := vol_55 hv
  exact F c s a.1 (vol_ne hv (fun s => by unfold volB; simp)) (vol_ne hv (fun s => by unfold volB; simp)) (vol_ne hv (fun s => by unfold volB; simp)) a.2 (vol_ne hv (fun s => by unfold volB; simp)) (vol_ne hv (fun s => by unfold volB; simp)) (vol_ne hv (fun s => by unfold volB; simp)) (vol_ne hv (fun s => by unfold volB; simp)) (vol_ne hv (fun s => by unfold volB; simp))
def FEnv (h : Hp) (P : Int) (G : Gm) (o8 n : Int) (row : Int → Int) : Prop := FShp h P ∧ BX h P G o8 n row ∧ CntOK h P G o8 n row ∧ WyS h 59
section
variable {h h' g : Hp} {P o8 n : Int} {G : Gm} {row : Int → Int}
theorem FF.f55 (F : FF h h') {s : Int} (h1 : s ≠ 3) (h2 : s < 7) : h' 55 s = h 55 s := F 55 s (Or.inr ⟨h1, h2⟩) (by decide) (by decide) (by decide) (Or.inl (by decide)) (by decide) (by decide) (by decide) (by decide) (by decide)
theorem FF.oth (F : FF h h') {c : Int} (hc : c < 55 ∨ 64 < c) (s : Int) : h' c s = h c s := F c s (Or.inl (by omega)) (by omega) (by omega) (by omega) (Or.inl (by omega)) (by omega) (by omega) (by omega) (by omega) (by omega)
theorem FShp_ff (F : FF h h') (S : FShp h P) : FShp h' P := by
  unfold FShp at S ⊢
  rw [F.f55 (by decide) (by decide), F.f55 (by decide) (by decide), F.f55 (by decide) (by decide), F.f55 (by decide) (by decide), F.f55 (by decide) (by decide), F.f55 (by decide) (by decide)]
  exact S
theorem FEnv_ff (F : FF h h') (E : FEnv h P G o8 n row) : FEnv h' P G o8 n row := by
  obtain ⟨S, B, C, Y⟩ := E
  have hP := bx_P B
  refine ⟨FShp_ff F S, BX_vol F.vol B, ?_, ?_⟩
  · unfold CntOK at C ⊢
    rw [F.oth (c := 21) (by omega), F.oth (c := 21) (by omega), F.oth (c := 21) (by omega), F.oth (c := 21) (by omega)]
    exact ⟨C.1, C.2.1, C.2.2.1, C.2.2.2.1, Tab_eq C.2.2.2.2 (funext (fun s => F.oth (by omega) s)) (funext (fun s => F.oth (by omega) s)) (funext (fun s => F.oth (by omega) s))⟩
  · have e : ∀ k, k ≠ 1 → h' 59 k = h 59 k := fun k hk => F 59 k (Or.inl (by decide)) (by decide) (by decide) (by decide) (Or.inr hk) (by decide) (by decide) (by decide) (by decide) (by decide)
    unfold WyS at Y ⊢
    rw [e 4 (by decide), e 5 (by decide), e 6 (by decide), e 7 (by decide), e 8 (by decide)]
    exact Y
theorem val_no (B : BX h P G o8 n row) (C : CntOK h P G o8 n row) {half node i j p q : Int} (hi : itm G half node i j p q) (hj : j ≤ n) : Ch_value 21 node half i j (cc p j) (cc q j) h = some (if ouB o8 (tr G node) then 0 else capN (wW G (ouB o8) row half node i j p q)) := by
  have W := bx_W B
  rw [val_item (Ev_cnt B C) C.2.2.2.2 hi hj]
  unfold tY
  cases ho : ouB o8 (tr G node)
  · rw [if_pos ⟨rfl, rfl⟩, count_hom W (aFix_AEq W (agC_law row) n) hi hj]
    rfl
  · rw [if_neg (by simp)]
    rfl
theorem val_t (B : BX h P G o8 n row) (C : CntOK h P G o8 n row) {t l i j : Int} (t0 : 0 ≤ t) (t1 : t < nT G) (hs : sp G (ft G t) = 0) (hl : lb G (ft G t) = l) (i0 : 0 ≤ i) (ij : i ≤ j) (jn : j ≤ n) : Ch_value 21 (ft G t) 1 i j j j h = some (capN (fH G (ouB o8) row l i j t)) := by
  have W := bx_W B
  have hi := root_item W (i := i) (j := j) t0 t1 hs i0 ij (by have := (bx_n B).2.2; omega)
  have v := val_no B C hi jn
  rw [cc_no, (root_in W t0 t1).2.2] at v
  rw [v]
  unfold fH goB
  rw [decide_eq_true hs, decide_eq_true hl]
  cases ho : ouB o8 t
  · rfl
  · rfl
theorem walkH {R : Type} {body : Int × Hp → Option ((Int × Hp) ⊕ R)} {f : Int → Nat} {lo y1 : Int} {k : Nat} (Q : R → Prop) (j0 : h 55 9 = (k : Int)) (hN : y1 - lo < 1000) (hy : lo ≤ y1) (hk : sI f lo (y1 - 1) ≤ k)
    (step : ∀ (y : Int) (κ : Nat) (g : Hp), lo ≤ y → y < y1 → R9 h g → g 55 9 = (κ : Int) → f y ≤ κ → κ ≤ k → ∃ g', body (y, g) = some (.inl (y + 1, g')) ∧ R9 h g' ∧ g' 55 9 = ((κ - f y : Nat) : Int))
    (stop : ∀ g, R9 h g → g 55 9 = ((k - sI f lo (y1 - 1) : Nat) : Int) → ∃ r, body (y1, g) = some (.inr r) ∧ Q r) : ∃ r, loopN body LN (lo, h) = some r ∧ Q r := by
  obtain ⟨r, e, p⟩ := loop_ok (body := body) (fun s => lo ≤ s.1 ∧ s.1 ≤ y1 ∧ R9 h s.2 ∧ s.2 55 9 = ((k - sI f lo (s.1 - 1) : Nat) : Int)) (fun s => (y1 - s.1).toNat) Q (by
    rintro ⟨y, g⟩ ⟨y0, y2, jg, hx⟩
    simp only at y0 y2 jg hx
    by_cases hl : y < y1
    · left
      have e1 := sI_1 (f := f) y0
      have e2 := sI_mono (f := f) (lo := lo) (show y ≤ y1 - 1 by omega)
      obtain ⟨g', x1, j1, j2⟩ := step y (k - sI f lo (y - 1)) g y0 hl jg hx (by omega) (by omega)
      refine ⟨_, x1, ⟨by simp only; omega, by simp only; omega, j1, ?_⟩, by simp only; omega⟩
      simp only
      rw [j2, show y + 1 - 1 = y by omega, e1]
      omega
    · right
      have hy' : y = y1 := by omega
      subst hy'
      exact stop g jg hx) LN (lo, h) ⟨Int.le_refl _, hy, fun _ _ _ => rfl, by
      simp only
      rw [sI_none (by omega), j0]
      omega⟩ (by unfold LN; simp only; omega)
  exact ⟨r, e, p⟩
theorem XTab_hi {st : St} (e : ∀ c s, 58 < c → h' c s = h c s) (T : XTab h 59 st) : XTab h' 59 st := by
  unfold XTab at T ⊢
  simp only [e 59 _ (by decide), e (59 + 1) _ (by decide), e (59 + 2) _ (by decide), e (59 + 3) _ (by decide), e (59 + 4) _ (by decide), e (59 + 5) _ (by decide)]
  exact T
theorem Fin3_eq {ts : List (Int × Int × Int)} (e3 : h' 55 3 = h 55 3) (e : ∀ c s, 56 ≤ c → c ≤ 58 → h' c s = h c s) (F : Fin3 h ts) : Fin3 h' ts :=
  ⟨by rw [e3]; exact F.1, Stk_eq ts (fun i _ => ⟨e 56 i (by decide) (by decide), e 57 i (by decide) (by decide), e 58 i (by decide) (by decide)⟩) F.2⟩
def phB (l1 l2 l3 l4 : Int) (r : Int) (h : Hp) : Option ((Int × Hp) ⊕ ((Int × Hp) ⊕ (Hp))) := if r ≤ h 55 9 then WF_putHost_j127 55 l1 l2 l3 l4 (hput h 55 9 (w64 ((h 55 9) - r))) else some (.inr (.inl ((l4, h))))
theorem L3_eq (l1 l2 l3 l4 : Int) (h : Hp) : WF_putHost_L3 55 l1 l2 l3 l4 h = if kK 55 = 9 then if kK (h 55 1) = 3 then if h (h 55 1) 0 ≤ l4 then some (.inr (.inr (h))) else if i_and (i_shr l1 l4) 1 = 1 then if kK (h (h 55 1) 6) = 21 ∧ (0 : Int) ≤ l4 ∧ l4 < kL (h (h 55 1) 6) then if kK (h 55 0) = 1 then ob (Ch_value (h 55 0) (h (h (h 55 1) 6) l4) 1 (h 55 10) (h 55 11) (h 55 11) (h 55 11) h) (fun r56 => phB l1 l2 l3 l4 r56 h) else none else none else WF_putHost_j127 55 l1 l2 l3 l4 h else none else none := rfl
def phP (r s' : Int) (f : Hp) : Option Hp := ob (WF_push 55 s' 0 1 r (f 55 9) f) (fun r112 => some r112)
def phN (s' : Int) (f : Hp) : Option Hp := ob (WF_cover (f 55 10) (f 55 11) (f 55 11) (f 55 11)) (fun r105 => phP r105 s' f)
def phQ (l2 l3 : Int) (z : (Int × Hp) ⊕ (Hp)) : Option Hp :=
  match z with
  | .inl e71 => if kK 55 = 9 then if kK (e71.2 55 2) = 8 then ob (Wy_addStep (e71.2 55 2) e71.1 l2 l3 e71.2) (fun r79 => phN r79.1 r79.2) else none else none
  | .inr e133 => some e133
theorem putHost_eq (l1 l2 l3 : Int) (h : Hp) : WF_putHost 55 l1 l2 l3 h = ob (loopN (fun q => WF_putHost_L3 55 l1 l2 l3 q.1 q.2) LN (0, h)) (fun z => phQ l2 l3 z) := rfl
theorem putHost_ok (E : FEnv h P G o8 n row) {bits l i j t : Int} {k k' : Nat} (hb : ∀ t, 0 ≤ t → t < 8 → bit bits t = if t < nT G ∧ sp G (ft G t) = 0 ∧ lb G (ft G t) = l then 1 else 0) (f9 : h 55 9 = (k : Int)) (f10 : h 55 10 = i) (f11 : h 55 11 = j) (i0 : 0 ≤ i) (ij : i ≤ j) (jn : j ≤ n) (hk : k ≤ 1000000000000000) (Pk : Pick (fH G (ouB o8) row l i j) 0 (nT G - 1) k t k') {st : St} (T : XTab h 59 st) (F : Fresh st) (hl : st.length < 48) {into nd' : Int} (hin : into = -1 ∨ (0 ≤ into ∧ into < (st.length : Int) ∧ 0 ≤ nd' ∧ nd' < 12)) {ts : List (Int × Int × Int)} (K : Fin3 h ts) (hts : ts.length < 1024) :
    ∃ h', WF_putHost 55 bits into nd' h = some h' ∧ FF h h' ∧ XTab h' 59 ((t, into, nd') :: st) ∧ Fin3 h' ((2 * (12 * (st.length : Int) + 0) + 1, cvr i j j j, (k' : Int)) :: ts) := by
  have B := E.2.1
  have W := bx_W B
  have nt := wf_nt W
  have R := bx_R B
  have n8 := (bx_n B).2.2
  have oP := bx_P B
  obtain ⟨g0, g1, -⟩ := GrO_k R.1
  obtain ⟨P1, P2, P3, P4⟩ := Pk
  have body : ∀ (y : Int) (κ : Nat) (g : Hp), 0 ≤ y → y < nT G → R9 h g → g 55 9 = (κ : Int) → κ ≤ 1000000000000000 → (fH G (ouB o8) row l i j y ≤ κ → ∃ g', WF_putHost_L3 55 bits into nd' y g = some (.inl (y + 1, g')) ∧ R9 h g' ∧ g' 55 9 = ((κ - fH G (ouB o8) row l i j y : Nat) : Int)) ∧ (κ < fH G (ouB o8) row l i j y → WF_putHost_L3 55 bits into nd' y g = some (.inr (.inl (y, g)))) := by
    intro y κ g y0 y1 rg g9 hκ
    have Eg := FEnv_ff rg.ff E
    have Bg := Eg.2.1
    have Rg := bx_R Bg
    have e1 : g 55 1 = P := Eg.1.2.1
    have e0 : g 55 0 = 21 := Eg.1.1
    have eT : g P 0 = nT G := Rg.2.2.1
    have e6 : g P 6 = P + 1 := Rg.2.1.1
    have ey : g (P + 1) y = ft G y := Rg.2.2.2.2.1 y y0 (by omega)
    have e10 : g 55 10 = i := by rw [rg 55 10 (Or.inr (by decide))]; exact f10
    have e11 : g 55 11 = j := by rw [rg 55 11 (Or.inr (by decide))]; exact f11
    have hby := hb y y0 (by omega)
    unfold bit at hby
    have ew : w32 (y + 1) = y + 1 := by unfold w32; omega
    rw [L3_eq, if_pos kK_55, e1, if_pos g0, eT, if_neg (by omega)]
    by_cases hc : y < nT G ∧ sp G (ft G y) = 0 ∧ lb G (ft G y) = l
    · rw [if_pos hc] at hby
      rw [if_pos hby, e6, if_pos ⟨g1.1, y0, by rw [g1.2]; omega⟩, e0, if_pos (by decide), ey, e10, e11, val_t Bg Eg.2.2.1 y0 y1 hc.2.1 hc.2.2 i0 ij jn, ob_some]
      unfold phB
      refine ⟨fun hf => ?_, fun hf => ?_⟩
      · rw [if_pos (by rw [g9]; exact (cap_le hκ).mpr hf)]
        unfold WF_putHost_j127
        rw [ew, g9, cap_sub hκ hf]
        refine ⟨_, rfl, ?_, hput_eq _ _ _ _⟩
        intro c s z
        rw [← rg c s z]
        rcases z with z | z
        · exact hput_ne1 z
        · exact hput_ne2 z
      · rw [if_neg (by rw [g9]; exact fun z => absurd ((cap_le hκ).mp z) (by omega))]
    · rw [if_neg hc] at hby
      have fz : fH G (ouB o8) row l i j y = 0 := by
        unfold fH
        rw [if_neg]
        intro z
        have := goB_iff.mp z
        exact hc ⟨y1, this.1, this.2.1⟩
      rw [if_neg (by omega)]
      refine ⟨fun _ => ?_, fun hf => by omega⟩
      unfold WF_putHost_j127
      rw [ew]
      exact ⟨g, rfl, rg, by rw [g9, fz]; rfl⟩
  obtain ⟨r, x, g, rg, g9, er⟩ := walkH (h := h) (body := fun q => WF_putHost_L3 55 bits into nd' q.1 q.2) (f := fH G (ouB o8) row l i j) (lo := 0) (y1 := t) (k := k) (fun r => ∃ g, R9 h g ∧ g 55 9 = (k' : Int) ∧ r = .inl (t, g)) f9 (by omega) P1 (by omega) (by
    intro y κ g y0 y1 rg g9 hf hκ
    exact (body y κ g y0 (by omega) rg g9 (by omega)).1 hf) (by
    intro g rg g9
    rw [show k - sI (fH G (ouB o8) row l i j) 0 (t - 1) = k' by omega] at g9
    exact ⟨_, (body t k' g P1 (by omega) rg g9 (by omega)).2 P4, g, rg, g9, rfl⟩)
  have Eg := FEnv_ff rg.ff E
  have e2 : g 55 2 = 59 := Eg.1.2.2.1
  have Tg : XTab g 59 st := XTab_hi (fun c s hc => rg c s (Or.inl (by omega))) T
  have Kg : Fin3 g ts := Fin3_eq (rg 55 3 (Or.inr (by decide))) (fun c s a b => rg c s (Or.inl (by omega))) K
  obtain ⟨g2, x2, F2, T2⟩ := Wy_addStep_ok (t := t) (Or.inl rfl) Eg.2.2.2 Tg F hl hin
  have Ff2 := FF_fw F2
  have E2 := FEnv_ff Ff2 Eg
  have q : ∀ c s, c < 59 → g2 c s = g c s := fun c s hc => F2 c s (Or.inl (by omega)) (by omega) (by omega) (by omega) (by omega) (by omega)
  have K2 : Fin3 g2 ts := Fin3_eq (q 55 3 (by decide)) (fun c s a b => q c s (by omega)) Kg
  have q9 : g2 55 9 = (k' : Int) := by rw [q 55 9 (by decide)]; exact g9
  have q10 : g2 55 10 = i := by rw [q 55 10 (by decide), rg 55 10 (Or.inr (by decide))]; exact f10
  have q11 : g2 55 11 = j := by rw [q 55 11 (by decide), rg 55 11 (Or.inr (by decide))]; exact f11
  obtain ⟨g3, x3, K3, o3⟩ := push_ok (s := (st.length : Int)) (n := 0) (half := 1) (c := cvr i j j j) (r := (k' : Int)) E2.1 K2 hts (by omega) (by omega) (by decide) (by decide) (Or.inr rfl)
  rw [putHost_eq, x, ob_some, er]
  show ∃ h', (if kK 55 = 9 then if kK (g 55 2) = 8 then ob (Wy_addStep (g 55 2) t into nd' g) (fun r79 => phN r79.1 r79.2) else none else none) = some h' ∧ _
  rw [if_pos kK_55, e2, if_pos kK_59, x2, ob_some]
  show ∃ h', phN (st.length : Int) g2 = some h' ∧ _
  unfold phN
  rw [q10, q11, cover_ok i0 (by omega) (by omega) (by omega) (by omega) (by omega) (by omega) (by omega), ob_some]
  unfold phP
  rw [q9, x3, ob_some]
  refine ⟨g3, rfl, (rg.ff.tr Ff2).tr (FF_push o3), ?_, K3⟩
  exact XTab_hi (fun c s hc => o3 c s (Or.inl (by omega)) (by omega) (by omega) (by omega)) T2
end
