/-! the class: above a node, second part -/
section
variable {h h' g : Hp} {P o8 n : Int} {G : Gm} {row : Int → Int}
theorem R9.tr {a b c : Hp} (x : R9 a b) (y : R9 b c) : R9 a c := fun i s z => by rw [y i s z, x i s z]
theorem cc_hi {p j : Int} : cc p j = (if p = -1 then j else p) := rfl
theorem lo_eq {node i j p q a : Int} (hi : itm G 1 node i j p q) : (if sp G node = 0 then a else cc q j) = (if p = -1 then a else q) := by
  unfold cc
  rcases hi.2.2.2.2.2.2 with ⟨z, z1, z2, z3⟩ | ⟨z, z1, z2⟩
  · have := hi.2.2.2.1
    rw [if_neg (by omega), if_neg (by omega), if_neg (by omega)]
  · rw [if_pos z, if_pos z1]
/-- the fields of a turn -/
def Fld (h : Hp) (s n i j p q : Int) : Prop := h 55 7 = s ∧ h 55 8 = n ∧ h 55 10 = i ∧ h 55 11 = j ∧ h 55 12 = cc p j ∧ h 55 13 = cc q j
theorem Fld_9 {s m i j p q : Int} (r : R9 h g) (F : Fld h s m i j p q) : Fld g s m i j p q := by
  unfold Fld at F ⊢
  rw [r 55 7 (Or.inr (by decide)), r 55 8 (Or.inr (by decide)), r 55 10 (Or.inr (by decide)), r 55 11 (Or.inr (by decide)), r 55 12 (Or.inr (by decide)), r 55 13 (Or.inr (by decide))]
  exact F
theorem j38_pass (E : FEnv h P G o8 n row) {s m node i j p q t a : Int} {κ : Nat} (hi : itm G 1 node i j p q) (jn : j ≤ n) (ho : ouB o8 (tr G node) = false) (t0 : 0 ≤ t) (t1 : t < nT G) (hs : sp G (ft G t) = 1) (a0 : i ≤ a) (a1 : a ≤ (if p = -1 then j else p)) (hκ : κ ≤ 1000000000000000) (f : Fld h s m i j p q) (f9 : h 55 9 = (κ : Int)) (hf : fa G o8 row node i j p q t a ≤ κ) :
    ∃ g', WF_putGuest_L16 55 node t (sp G node) a h = some (.inl (a + 1, g')) ∧ R9 h g' ∧ g' 55 9 = ((κ - fa G o8 row node i j p q t a : Nat) : Int) := by
  have sp' := itm_span hi
  have hlo : 0 ≤ (if p = -1 then a else q) ∧ (if p = -1 then a else q) ≤ j + 1 := by
    split
    · rename_i z; rw [if_pos z] at a1; omega
    · omega
  unfold fa at hf ⊢
  obtain ⟨r, x, g', rg, g9, er⟩ := walkH (h := h) (body := fun q' => WF_putGuest_L40 55 node t (sp G node) a q'.1 q'.2) (f := fc G o8 row node i j p q t a) (lo := if p = -1 then a else q) (y1 := j + 1) (k := κ) (fun r => ∃ g, R9 h g ∧ g 55 9 = ((κ - sI (fc G o8 row node i j p q t a) (if p = -1 then a else q) j : Nat) : Int) ∧ r = .inr g) f9 (by omega) hlo.2 (by rw [show j + 1 - 1 = j by omega]; exact hf) (by
    intro y κ' g y0 y1 rg g9 hf' hκ'
    have Fg := Fld_9 rg f
    obtain ⟨g', x1, r1, q1⟩ := (L40_step (FEnv_ff rg.ff E) hi jn ho t0 t1 hs a0 a1 y0 (by omega) (show κ' ≤ 1000000000000000 by omega) Fg.2.2.1 Fg.2.2.2.1 Fg.2.2.2.2.1 Fg.2.2.2.2.2 g9).1 hf'
    exact ⟨g', x1, rg.tr r1, q1⟩) (by
    intro g rg g9
    have Fg := Fld_9 rg f
    rw [show j + 1 - 1 = j by omega] at g9
    refine ⟨_, ?_, g, rg, g9, rfl⟩
    show WF_putGuest_L40 55 node t (sp G node) a (j + 1) g = _
    unfold WF_putGuest_L40
    rw [if_pos kK_55, Fg.2.2.2.1, if_pos (by omega)])
  unfold WF_putGuest_L16 WF_putGuest_j38
  rw [if_pos kK_55, f.2.2.2.2.1, cc_hi, if_neg (by omega), f.2.2.2.2.2, lo_eq hi, x, ob_some, er]
  exact ⟨g', by rw [show w32 (a + 1) = a + 1 by unfold w32; split at a1 <;> omega], rg, g9⟩
theorem j38_find (E : FEnv h P G o8 n row) {s m node i j p q t a c : Int} {κ k3 : Nat} (hi : itm G 1 node i j p q) (jn : j ≤ n) (ho : ouB o8 (tr G node) = false) (t0 : 0 ≤ t) (t1 : t < nT G) (hs : sp G (ft G t) = 1) (a0 : i ≤ a) (a1 : a ≤ (if p = -1 then j else p)) (hκ : κ ≤ 1000000000000000) (f : Fld h s m i j p q) (f9 : h 55 9 = (κ : Int)) (Pk : Pick (fc G o8 row node i j p q t a) (if p = -1 then a else q) j κ c k3) :
    ∃ g', WF_putGuest_L16 55 node t (sp G node) a h = some (.inr (.inl (a, c, cc p c, cc q c, capN (wW G (ouB o8) row 0 node a c p q), g'))) ∧ R9 h g' ∧ g' 55 9 = (k3 : Int) := by
  have sp' := itm_span hi
  obtain ⟨P1, P2, P3, P4⟩ := Pk
  have hlo : 0 ≤ (if p = -1 then a else q) := by split <;> omega
  obtain ⟨r, x, g', rg, g9, er⟩ := walkH (h := h) (body := fun q' => WF_putGuest_L40 55 node t (sp G node) a q'.1 q'.2) (f := fc G o8 row node i j p q t a) (lo := if p = -1 then a else q) (y1 := c) (k := κ) (fun r => ∃ g, R9 h g ∧ g 55 9 = (k3 : Int) ∧ r = .inl (c, cc p c, cc q c, capN (wW G (ouB o8) row 0 node a c p q), g)) f9 (by omega) P1 (by omega) (by
    intro y κ' g y0 y1 rg g9 hf' hκ'
    have Fg := Fld_9 rg f
    obtain ⟨g', x1, r1, q1⟩ := (L40_step (FEnv_ff rg.ff E) hi jn ho t0 t1 hs a0 a1 y0 (by omega) (show κ' ≤ 1000000000000000 by omega) Fg.2.2.1 Fg.2.2.2.1 Fg.2.2.2.2.1 Fg.2.2.2.2.2 g9).1 hf'
    exact ⟨g', x1, rg.tr r1, q1⟩) (by
    intro g rg g9
    have Fg := Fld_9 rg f
    rw [show κ - sI (fc G o8 row node i j p q t a) (if p = -1 then a else q) (c - 1) = k3 by omega] at g9
    exact ⟨_, (L40_step (FEnv_ff rg.ff E) hi jn ho t0 t1 hs a0 a1 P1 P2 (show k3 ≤ 1000000000000000 by omega) Fg.2.2.1 Fg.2.2.2.1 Fg.2.2.2.2.1 Fg.2.2.2.2.2 g9).2 P4, g, rg, g9, rfl⟩)
  unfold WF_putGuest_L16 WF_putGuest_j38
  rw [if_pos kK_55, f.2.2.2.2.1, cc_hi, if_neg (by omega), f.2.2.2.2.2, lo_eq hi, x, ob_some, er]
  exact ⟨g', rfl, rg, g9⟩
theorem putGuest_pass (E : FEnv h P G o8 n row) {s m node i j p q t : Int} {κ : Nat} (hi : itm G 1 node i j p q) (jn : j ≤ n) (ho : ouB o8 (tr G node) = false) (t0 : 0 ≤ t) (t1 : t < nT G) (hs : sp G (ft G t) = 1) (hκ : κ ≤ 1000000000000000) (f : Fld h s m i j p q) (f9 : h 55 9 = (κ : Int)) (hf : sI (fa G o8 row node i j p q t) i (if p = -1 then j else p) ≤ κ) :
    ∃ g', WF_putGuest 55 node t h = some (0, g') ∧ R9 h g' ∧ g' 55 9 = ((κ - sI (fa G o8 row node i j p q t) i (if p = -1 then j else p) : Nat) : Int) := by
  have B := E.2.1
  have W := bx_W B
  have R := bx_R B
  have nn := wf_nn W
  have sp' := itm_span hi
  have n0 := hi.2.1
  have n1 := hi.2.2.1
  obtain ⟨k0, -, -, -, -, -, -, -, -, -, k10, -⟩ := GrO_k R.1
  have e1 : h 55 1 = P := E.1.2.1
  have e15 : h P 15 = P + 10 := R.2.1.2.2.2.2.2.2.2.2.2.1
  have es : h (P + 10) node = sp G node := (R.2.2.2.2.2.1 node n0 n1).2.2.2.2.2.2.2.2
  have hup : (if p = -1 then j else p) ≤ j ∧ i ≤ (if p = -1 then j else p) := by split <;> omega
  obtain ⟨r, x, g', rg, g9, er⟩ := walkH (h := h) (body := fun q' => WF_putGuest_L16 55 node t (sp G node) q'.1 q'.2) (f := fa G o8 row node i j p q t) (lo := i) (y1 := (if p = -1 then j else p) + 1) (k := κ) (fun r => ∃ g, R9 h g ∧ g 55 9 = ((κ - sI (fa G o8 row node i j p q t) i (if p = -1 then j else p) : Nat) : Int) ∧ r = .inr g) f9 (by omega) (by omega) (by rw [show (if p = -1 then j else p) + 1 - 1 = (if p = -1 then j else p) by omega]; exact hf) (by
    intro y κ' g y0 y1 rg g9 hf' hκ'
    have Fg := Fld_9 rg f
    obtain ⟨g', x1, r1, q1⟩ := j38_pass (FEnv_ff rg.ff E) hi jn ho t0 t1 hs y0 (by omega) (show κ' ≤ 1000000000000000 by omega) Fg g9 hf'
    exact ⟨g', x1, rg.tr r1, q1⟩) (by
    intro g rg g9
    have Fg := Fld_9 rg f
    rw [show (if p = -1 then j else p) + 1 - 1 = (if p = -1 then j else p) by omega] at g9
    refine ⟨_, ?_, g, rg, g9, rfl⟩
    show WF_putGuest_L16 55 node t (sp G node) ((if p = -1 then j else p) + 1) g = _
    unfold WF_putGuest_L16
    rw [if_pos kK_55, Fg.2.2.2.2.1, cc_hi, if_pos (by omega)])
  rw [putGuest_eq, if_pos kK_55, e1, if_pos k0, e15, if_pos ⟨k10.1, n0, by rw [k10.2]; omega⟩, es, f.2.2.1, x, ob_some, er]
  exact ⟨g', rfl, rg, g9⟩
theorem fa_eq {node i j p q t a : Int} (hu : ouB o8 t = false) : fa G o8 row node i j p q t a = fA G (ouB o8) row node i j p q t a ∧ fc G o8 row node i j p q t a = fC G (ouB o8) row node i j p q t a := by
  have e : fc G o8 row node i j p q t a = fC G (ouB o8) row node i j p q t a := by
    funext c
    unfold fc
    rw [hu, if_neg Bool.false_ne_true]
  refine ⟨?_, e⟩
  unfold fa fA
  rw [e]
theorem fa_0 {node i j p q t : Int} (hu : ouB o8 t = true) {x y : Int} : sI (fa G o8 row node i j p q t) x y = 0 := by
  apply sI_0
  intro a _ _
  unfold fa
  apply sI_0
  intro c _ _
  unfold fc
  rw [if_pos hu]
/-- a guest is put -/
theorem putGuest_find (E : FEnv h P G o8 n row) {s node i j p q t a c : Int} {κ k2 k3 : Nat} (hi : itm G 1 node i j p q) (jn : j ≤ n) (ho : ouB o8 (tr G node) = false) (t0 : 0 ≤ t) (t1 : t < nT G) (hg : goB G (ouB o8) t (lb G node) 1 = true) (hκ : κ ≤ 1000000000000000) (f : Fld h s (off G node) i j p q) (f9 : h 55 9 = (κ : Int)) (P2 : Pick (fA G (ouB o8) row node i j p q t) i (if p = -1 then j else p) κ a k2) (P3 : Pick (fC G (ouB o8) row node i j p q t a) (if p = -1 then a else q) j k2 c k3)
    {st : St} (T : XTab h 59 st) (F : Fresh st) (hl : st.length < 48) (s0 : 0 ≤ s) (s1 : s < (st.length : Int)) {ts : List (Int × Int × Int)} (K : Fin3 h ts) (hts : ts.length + 1 < 1024) :
    ∃ h', WF_putGuest 55 node t h = some (1, h') ∧ FF h h' ∧ XTab h' 59 ((t, s, off G node) :: st) ∧ Fin3 h' ((2 * (12 * (st.length : Int) + 0) + 1, cvr i j a c, ((k3 / wW G (ouB o8) row 0 node a c p q : Nat) : Int)) :: (2 * (12 * s + off G node) + 0, cvr a c (cc p c) (cc q c), ((k3 % wW G (ouB o8) row 0 node a c p q : Nat) : Int)) :: ts) := by
  have B := E.2.1
  have W := bx_W B
  have R := bx_R B
  have nn := wf_nn W
  have n8 := (bx_n B).2.2
  have sp' := itm_span hi
  have n0 := hi.2.1
  have n1 := hi.2.2.1
  have hs := (goB_spec hg).1
  have hu : ouB o8 t = false := (goB_iff.mp hg).2.2
  have rl := rel_in W n0 n1
  have o0 : 0 ≤ off G node ∧ off G node < 12 := by unfold off; omega
  obtain ⟨k0, -, -, -, -, -, -, -, -, -, k10, -⟩ := GrO_k R.1
  have e1 : h 55 1 = P := E.1.2.1
  have e15 : h P 15 = P + 10 := R.2.1.2.2.2.2.2.2.2.2.2.1
  have es : h (P + 10) node = sp G node := (R.2.2.2.2.2.1 node n0 n1).2.2.2.2.2.2.2.2
  have hup : (if p = -1 then j else p) ≤ j := by split <;> omega
  have hk2 : k2 ≤ 1000000000000000 := by have := P2.2.2.1; omega
  have hk3 : k3 ≤ 1000000000000000 := by have := P3.2.2.1; omega
  obtain ⟨u1, u2, u3, -⟩ := around_items W hi t0 t1 hs P2.1 P2.2.1 P3.1 P3.2.1
  obtain ⟨r1, r2, r3⟩ := fC_pos P3.2.2.2
  have su1 := itm_span u1
  have su2 := itm_span u2
  have efa : fa G o8 row node i j p q t = fA G (ouB o8) row node i j p q t := funext (fun x => (fa_eq hu).1)
  have P3' : Pick (fc G o8 row node i j p q t a) (if p = -1 then a else q) j k2 c k3 := by rw [(fa_eq hu).2]; exact P3
  obtain ⟨P21, P22, P23, P24⟩ := P2
  obtain ⟨r, x, g, rg, g9, er⟩ := walkH (h := h) (body := fun q' => WF_putGuest_L16 55 node t (sp G node) q'.1 q'.2) (f := fA G (ouB o8) row node i j p q t) (lo := i) (y1 := a) (k := κ) (fun r => ∃ g, R9 h g ∧ g 55 9 = (k3 : Int) ∧ r = .inl (a, c, cc p c, cc q c, capN (wW G (ouB o8) row 0 node a c p q), g)) f9 (by omega) P21 (by omega) (by
    intro y κ' g y0 y1 rg g9 hf' hκ'
    have Fg := Fld_9 rg f
    rw [← efa] at hf'
    obtain ⟨g', x1, r1, q1⟩ := j38_pass (FEnv_ff rg.ff E) hi jn ho t0 t1 hs y0 (by omega) (show κ' ≤ 1000000000000000 by omega) Fg g9 hf'
    rw [efa] at q1
    exact ⟨g', x1, rg.tr r1, q1⟩) (by
    intro g rg g9
    have Fg := Fld_9 rg f
    rw [show κ - sI (fA G (ouB o8) row node i j p q t) i (a - 1) = k2 by omega] at g9
    obtain ⟨g', x1, r1, q1⟩ := j38_find (FEnv_ff rg.ff E) hi jn ho t0 t1 hs P21 P22 hk2 Fg g9 P3'
    exact ⟨_, x1, g', rg.tr r1, q1, rfl⟩)
  have Eg := FEnv_ff rg.ff E
  have Fg := Fld_9 rg f
  have Tg : XTab g 59 st := XTab_hi (fun c s hc => rg c s (Or.inl (by omega))) T
  have Kg : Fin3 g ts := Fin3_eq (rg 55 3 (Or.inr (by decide))) (fun c s a b => rg c s (Or.inl (by omega))) K
  have wne : capN (wW G (ouB o8) row 0 node a c p q) ≠ 0 := fun z => by rw [capN_0.mp z] at r3; exact Nat.not_lt_zero _ r3
  have ccr : 0 ≤ cc p c ∧ cc p c < 16 ∧ 0 ≤ cc q c ∧ cc q c < 16 := by
    unfold cc
    split <;> split <;> omega
  obtain ⟨g2, x2, K2, o2⟩ := push_ok (s := s) (n := off G node) (half := 0) (c := cvr a c (cc p c) (cc q c)) (r := ((k3 % wW G (ouB o8) row 0 node a c p q : Nat) : Int)) Eg.1 Kg (by omega) s0 (by omega) o0.1 o0.2 (Or.inl rfl)
  have F2 := FF_push o2
  have E2 := FEnv_ff F2 Eg
  have T2 : XTab g2 59 st := XTab_hi (fun c s hc => o2 c s (Or.inl (by omega)) (by omega) (by omega) (by omega)) Tg
  have q2 : ∀ x, x ≠ 3 → g2 55 x = g 55 x := fun x hx => o2 55 x (Or.inr hx) (by decide) (by decide) (by decide)
  obtain ⟨g3, x3, F3, T3⟩ := Wy_addStep_ok (t := t) (into := s) (n := off G node) (Or.inl rfl) E2.2.2.2 T2 F hl (Or.inr ⟨s0, s1, o0.1, o0.2⟩)
  have Ff3 := FF_fw F3
  have E3 := FEnv_ff Ff3 E2
  have q3 : ∀ c s, c < 59 → g3 c s = g2 c s := fun c s hc => F3 c s (Or.inl (by omega)) (by omega) (by omega) (by omega) (by omega) (by omega)
  have K3 : Fin3 g3 _ := Fin3_eq (q3 55 3 (by decide)) (fun c s a b => q3 c s (by omega)) K2
  obtain ⟨g4, x4, K4, o4⟩ := push_ok (s := (st.length : Int)) (n := 0) (half := 1) (c := cvr i j a c) (r := ((k3 / wW G (ouB o8) row 0 node a c p q : Nat) : Int)) E3.1 K3 (by show ts.length + 1 < 1024; exact hts) (by omega) (by omega) (by decide) (by decide) (Or.inr rfl)
  rw [putGuest_eq, if_pos kK_55, e1, if_pos k0, e15, if_pos ⟨k10.1, n0, by rw [k10.2]; omega⟩, es, f.2.2.1, x, ob_some, er]
  show ∃ h', (ob (WF_cover a c (cc p c) (cc q c)) (fun r167 => pg2 t a c (capN (wW G (ouB o8) row 0 node a c p q)) r167 g)) = some (1, h') ∧ _
  rw [cover_ok (by omega) (by omega) (by omega) (by omega) ccr.1 ccr.2.1 ccr.2.2.1 ccr.2.2.2, ob_some]
  unfold pg2
  rw [if_pos wne, Fg.1, Fg.2.1, g9, cap_mod hk3, x2, ob_some]
  unfold pg3
  rw [E2.1.2.2.1, if_pos kK_59, q2 7 (by decide), q2 8 (by decide), Fg.1, Fg.2.1, x3, ob_some]
  show ∃ h', pg4 a c (capN (wW G (ouB o8) row 0 node a c p q)) (st.length : Int) g3 = some (1, h') ∧ _
  unfold pg4
  rw [q3 55 10 (by decide), q2 10 (by decide), Fg.2.2.1, q3 55 11 (by decide), q2 11 (by decide), Fg.2.2.2.1, cover_ok (by omega) (by omega) (by omega) (by omega) (by omega) (by omega) (by omega) (by omega), ob_some, q3 55 9 (by decide), q2 9 (by decide), g9, cap_div hk3, x4, ob_some]
  refine ⟨g4, rfl, ((rg.ff.tr F2).tr Ff3).tr (FF_push o4), ?_, K4⟩
  exact XTab_hi (fun c s hc => o4 c s (Or.inl (by omega)) (by omega) (by omega) (by omega)) T3
def gaK (node r : Int) (h : Hp) : Option Hp := if r ≤ h 55 9 then WF_goAbove_j95 55 node (hput h 55 9 (w64 ((h 55 9) - r))) else ob (WF_cover (h 55 10) (h 55 11) (h 55 12) (h 55 13)) (fun r74 => ob (WF_push 55 (h 55 7) (h 55 8) 0 r74 (h 55 9) h) (fun r81 => some r81))
theorem goAbove_eq (node : Int) (h : Hp) : WF_goAbove 55 node h = if kK 55 = 9 then if kK (h 55 1) = 3 then if kK (h (h 55 1) 10) = 21 ∧ (0 : Int) ≤ node ∧ node < kL (h (h 55 1) 10) then if h (h (h 55 1) 10) node = 2 then WF_goAbove_j95 55 node h else if kK (h 55 0) = 1 then ob (Ch_value (h 55 0) node 0 (h 55 10) (h 55 11) (h 55 12) (h 55 13) h) (fun r35 => gaK node r35 h) else none else none else none else none := rfl
theorem goAbove_ok (E : FEnv h P G o8 n row) {s node i j p q : Int} {k : Nat} {d : Dv} {st : St} (hk0 : kd G node = 0) (t' : Tok G o8 n row st (d, s, 1, node, i, j, p, q, k)) (f : Fld h s (off G node) i j p q) (f9 : h 55 9 = (k : Int)) (T : XTab h 59 st) (F : Fresh st) (hl : st.length + dst d ≤ 48) {ts : List (Int × Int × Int)} (K : Fin3 h ts) (hts : ts.length + 1 < 1024) :
    ∃ h', WF_goAbove 55 node h = some h' ∧ Done h h' G o8 n row d s node st ts := by
  obtain ⟨hi, jn, hk, hkw, N, ho, s0, s1, et, -⟩ := t'
  have B := E.2.1
  have W := bx_W B
  have I := bx_G B
  have R := bx_R B
  have nn := wf_nn W
  have nt := wf_nt W
  have n8 := (bx_n B).2.2
  have sp' := itm_span hi
  have n0 := hi.2.1
  have n1 := hi.2.2.1
  have hh := half_item hi
  have rl := rel_in W n0 n1
  have o0 : 0 ≤ off G node ∧ off G node < 12 := by unfold off; omega
  have lbn := (wf_lb W n0 n1).1 (by omega)
  obtain ⟨k0, -, -, -, k4, k5, -, -, -, -, k10, -, -, k13⟩ := GrO_k R.1
  have e1 : h 55 1 = P := E.1.2.1
  have e0 : h 55 0 = 21 := E.1.1
  have e10 : h P 10 = P + 5 := R.2.1.2.2.2.2.1
  have em : h (P + 5) node = mk G node := (R.2.2.2.2.2.1 node n0 n1).2.2.2.1
  have v1 := val_no B E.2.2.1 hh.1 jn
  rw [ho] at v1
  have ccr : 0 ≤ cc p j ∧ cc p j < 16 ∧ 0 ≤ cc q j ∧ cc q j < 16 := by
    unfold cc
    split <;> split <;> omega
  rw [goAbove_eq, if_pos kK_55, e1, if_pos k0, e10, if_pos ⟨k5.1, n0, by rw [k5.2]; omega⟩, em, e0, if_pos (show kK 21 = 1 by decide), f.2.2.1, f.2.2.2.1, f.2.2.2.2.1, f.2.2.2.2.2, v1, ob_some]
  simp only [Bool.false_eq_true, if_false]
  -- the case of a guest
  have guest : ∀ (x d' : Dv), d = .sub x d' → ∀ g : Hp, R9 h g → g 55 9 = ((k - bare G (ouB o8) row node i j p q : Nat) : Int) → ∃ h', WF_goAbove_j95 55 node g = some h' ∧ Done h h' G o8 n row d s node st ts := by
    intro x d' ed g rg g9
    subst ed
    obtain ⟨k0', m1, hb, t, k1, a, k2, c, k3, o, ex, P1, P2, P3, t0, t1, hg, hs, f1, f2, r2, r3, no, nd', u1, u2, -⟩ := inv_guest I hi N
    subst ex
    have hr := root_in W t0 t1
    have Eg := FEnv_ff rg.ff E
    have Rg := bx_R Eg.2.1
    have Fg := Fld_9 rg f
    have e1' : g 55 1 = P := Eg.1.2.1
    have e9' : g P 9 = P + 4 := Rg.2.1.2.2.2.1
    have e18' : g P 18 = P + 13 := Rg.2.1.2.2.2.2.2.2.2.2.2.2.2.2
    have el : g (P + 4) node = lb G node := (Rg.2.2.2.2.2.1 node n0 n1).2.2.1
    have eT : ∀ g', R9 g g' → g' P 0 = nT G := fun g' r => (bx_R (FEnv_ff r.ff Eg).2.1).2.2.1
    have hbt : ∀ t, 0 ≤ t → t < 8 → i_and (i_shr (g (P + 13) (lb G node)) t) 1 = if t < nT G ∧ sp G (ft G t) = 1 ∧ lb G (ft G t) = lb G node then 1 else 0 := fun t a b => (Rg.2.2.2.2.2.2.1 (lb G node) lbn.1 lbn.2 t a b).2
    have hk1 : k1 ≤ 1000000000000000 := by have := P1.2.2.1; omega
    have Tg : XTab g 59 st := XTab_hi (fun c s hc => rg c s (Or.inl (by omega))) T
    have Kg : Fin3 g ts := Fin3_eq (rg 55 3 (Or.inr (by decide))) (fun c s a b => rg c s (Or.inl (by omega))) K
    obtain ⟨P11, P12, P13, P14⟩ := P1
    have dl : st.length + (dst o + 1 + dst d') ≤ 48 := hl
    obtain ⟨r, x, g2, F2, T2, K2, er⟩ := walkH (h := g) (body := fun q' => WF_goAbove_L115 55 node (g (P + 13) (lb G node)) q'.1 q'.2) (f := fT G (ouB o8) row node i j p q) (lo := 0) (y1 := t) (k := k - bare G (ouB o8) row node i j p q) (fun r => ∃ g2, FF g g2 ∧ XTab g2 59 ((t, s, off G node) :: st) ∧ Fin3 g2 ((2 * (12 * (st.length : Int) + 0) + 1, cvr i j a c, ((k3 / wW G (ouB o8) row 0 node a c p q : Nat) : Int)) :: (2 * (12 * s + off G node) + 0, cvr a c (cc p c) (cc q c), ((k3 % wW G (ouB o8) row 0 node a c p q : Nat) : Int)) :: ts) ∧ r = .inl g2) g9 (by omega) P11 (by omega) (by
      intro y κ' g1 y0 y1 r1 q9 hf' hκ'
      have E1 := FEnv_ff r1.ff Eg
      have F1 := Fld_9 r1 Fg
      have ew : w32 (y + 1) = y + 1 := by unfold w32; omega
      show ∃ g', WF_goAbove_L115 55 node (g (P + 13) (lb G node)) y g1 = _ ∧ _
      unfold WF_goAbove_L115 WF_goAbove_j145
      rw [if_pos kK_55, E1.1.2.1, if_pos k0, eT g1 r1, if_neg (by omega), hbt y y0 (by omega), ew]
      by_cases hc : y < nT G ∧ sp G (ft G y) = 1 ∧ lb G (ft G y) = lb G node
      · rw [if_pos hc, if_pos rfl]
        have e2 : fT G (ouB o8) row node i j p q y = sI (fa G o8 row node i j p q y) i (if p = -1 then j else p) := by
          unfold fT
          cases hu : ouB o8 y
          · rw [if_pos (goB_mk hc.2.1 hc.2.2 hu)]
            exact sI_congr (fun x _ _ => ((fa_eq hu).1).symm)
          · rw [fa_0 hu, if_neg]
            intro z
            have := (goB_iff.mp z).2.2
            rw [hu] at this
            exact absurd this (by decide)
        rw [e2] at hf' ⊢
        obtain ⟨g', x1, r2', q1⟩ := putGuest_pass E1 hi jn ho y0 (show y < nT G by omega) hc.2.1 (show κ' ≤ 1000000000000000 by omega) F1 q9 hf'
        rw [x1, ob_some]
        dsimp only
        rw [if_pos rfl]
        exact ⟨g', rfl, r1.tr r2', q1⟩
      · rw [if_neg hc, if_neg (by decide)]
        have e2 : fT G (ouB o8) row node i j p q y = 0 := by
          unfold fT
          rw [if_neg]
          intro z
          have := goB_iff.mp z
          exact hc ⟨by omega, this.1, this.2.1⟩
        exact ⟨g1, rfl, r1, by rw [q9, e2]; rfl⟩) (by
      intro g1 r1 q9
      have E1 := FEnv_ff r1.ff Eg
      have F1 := Fld_9 r1 Fg
      have T1 : XTab g1 59 st := XTab_hi (fun c s hc => r1 c s (Or.inl (by omega))) Tg
      have K1 : Fin3 g1 ts := Fin3_eq (r1 55 3 (Or.inr (by decide))) (fun c s a b => r1 c s (Or.inl (by omega))) Kg
      rw [show k - bare G (ouB o8) row node i j p q - sI (fT G (ouB o8) row node i j p q) 0 (t - 1) = k1 by omega] at q9
      obtain ⟨g2, x2, F2, T2, K2⟩ := putGuest_find E1 hi jn ho P11 (show t < nT G by omega) hg hk1 F1 q9 P2 P3 T1 F (by omega) s0 s1 K1 hts
      refine ⟨_, ?_, g2, r1.ff.tr F2, T2, K2, rfl⟩
      show WF_goAbove_L115 55 node (g (P + 13) (lb G node)) t g1 = _
      unfold WF_goAbove_L115
      rw [if_pos kK_55, E1.1.2.1, if_pos k0, eT g1 r1, if_neg (by omega), hbt t P11 (by omega), if_pos (show t < nT G ∧ sp G (ft G t) = 1 ∧ lb G (ft G t) = lb G node from ⟨t1, hs, (goB_iff.mp hg).2.1⟩), if_pos rfl, x2, ob_some]
      dsimp only
      rw [if_neg (by decide)])
    unfold WF_goAbove_j95
    rw [if_pos kK_55, e1', if_pos k0, e9', if_pos ⟨k4.1, n0, by rw [k4.2]; omega⟩, el, e18', if_pos ⟨k13.1, lbn.1, by rw [k13.2]; exact lbn.2⟩, x, ob_some, er]
    refine ⟨g2, rfl, [(o, st.length, 1, ft G t, i, j, a, c, k3 / wW G (ouB o8) row 0 node a c p q), (d', s, 0, node, a, c, p, q, k3 % wW G (ouB o8) row 0 node a c p q)], (t, s, off G node) :: st, rg.ff.tr F2, T2, ?_, ?_, ?_, rfl, ?_, ?_, ?_⟩
    · have sa := itm_span f2
      have a0 : i ≤ a := P2.1
      have z1 : rawT G (o, st.length, 1, ft G t, i, j, a, c, k3 / wW G (ouB o8) row 0 node a c p q) = (2 * (12 * (st.length : Int) + 0) + 1, cvr i j a c, ((k3 / wW G (ouB o8) row 0 node a c p q : Nat) : Int)) := by
        show (2 * (12 * (st.length : Int) + off G (ft G t)) + 1, cvr i j (cc a j) (cc c j), _) = _
        rw [show off G (ft G t) = 0 by unfold off; rw [hr.2.2]; omega, cc_yes (p := a) j (by omega), cc_yes (p := c) j (by omega)]
      show Fin3 g2 (rawT G (o, st.length, 1, ft G t, i, j, a, c, k3 / wW G (ouB o8) row 0 node a c p q) :: _ :: ts)
      rw [z1]
      exact K2
    · intro u hu
      have hkk : k3 ≤ 1000000000000000 := by have := P3.2.2.1; have := P2.2.2.1; omega
      have sa := itm_span f1
      have sb := itm_span f2
      have l1 : ((((t, s, off G node) :: st).length : Nat) : Int) = st.length + 1 := by show ((st.length + 1 : Nat) : Int) = _; omega
      rcases List.mem_cons.mp hu with e | hu
      · subst e
        exact ⟨f2, jn, by have := Nat.div_le_self k3 (wW G (ouB o8) row 0 node a c p q); omega, r2, no, by rw [hr.2.2]; exact (goB_iff.mp hg).2.2, by omega, by omega, by rw [cons_ent, hr.2.2], fun z => absurd z (by decide)⟩
      · rcases List.mem_cons.mp hu with e | hu
        · subst e
          refine ⟨f1, by have := P3.2.1; omega, by have := Nat.mod_le k3 (wW G (ouB o8) row 0 node a c p q); omega, r3, nd', ho, s0, by omega, ?_, fun _ => hk0⟩
          show (if s = (st.length : Int) then _ else sEnt st s).1 = _
          rw [if_neg (by omega)]
          exact et
        · exact absurd hu (List.not_mem_nil)
    · exact lay_Fresh (G := G) (.intMul t .zero) s node st s1 F
    · show dvS o + (dvS d' + 0) + 1 ≤ dvS o + 1 + dvS d'
      omega
    · show st.length ≤ st.length + 1
      omega
    · intro s' hs'
      show (if s' = (st.length : Int) then _ else sEnt st s') = _
      rw [if_neg (by omega)]
  cases d with
  | zero => have := N.2.1; omega
  | var _ => exact False.elim N
  | intMul t d =>
    rcases N with ⟨z, -⟩ | ⟨-, z, -⟩
    · exact absurd z (by decide)
    · omega
  | natMul _ _ => exact absurd N.1 (by decide)
  | add _ _ => exact absurd N.1 (by decide)
  | neg d' =>
    obtain ⟨-, -, hm, hl', nd'⟩ := N
    obtain ⟨g2, x2, K2, o2⟩ := push_ok (s := s) (n := off G node) (half := 0) (c := cvr i j (cc p j) (cc q j)) (r := (k : Int)) E.1 K (by omega) s0 (by omega) o0.1 o0.2 (Or.inl rfl)
    unfold gaK
    rw [if_neg hm, f9, if_neg (fun z => absurd ((cap_le hk).mp z) (by omega)), f.2.2.1, f.2.2.2.1, f.2.2.2.2.1, f.2.2.2.2.2, cover_ok (by omega) (by omega) (by omega) (by omega) ccr.1 ccr.2.1 ccr.2.2.1 ccr.2.2.2, ob_some, f.1, f.2.1, x2, ob_some]
    refine ⟨g2, rfl, [(d', s, 0, node, i, j, p, q, k)], st, FF_push o2, XTab_hi (fun c s hc => o2 c s (Or.inl (by omega)) (by omega) (by omega) (by omega)) T, K2, ?_, F, rfl, ?_, Nat.le_refl _, fun _ _ => rfl⟩
    · intro u hu
      rcases List.mem_cons.mp hu with e | hu
      · subst e
        exact ⟨hh.1, jn, hk, hl', nd', ho, s0, s1, et, fun _ => hk0⟩
      · exact absurd hu (List.not_mem_nil)
    · show dvS d' + 0 + 1 ≤ dvS d' + 1
      omega
  | sub x d' =>
    have hb := N.2.2.2.1
    by_cases hm : mk G node = 2
    · rw [if_pos hm]
      refine guest x d' rfl h (fun _ _ _ => rfl) ?_
      rw [f9]
      unfold bare
      rw [if_pos hm]
      rfl
    · rw [if_neg hm]
      have eb : bare G (ouB o8) row node i j p q = wW G (ouB o8) row 0 node i j p q := by unfold bare; rw [if_neg hm]
      unfold gaK
      rw [eb] at hb
      rw [f9, if_pos ((cap_le hk).mpr hb), cap_sub hk hb]
      refine guest x d' rfl _ ?_ (by rw [hput_eq, eb])
      intro c s z
      rcases z with z | z
      · exact hput_ne1 z
      · exact hput_ne2 z
end
