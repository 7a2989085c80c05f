/-! the class: a chart's state, and what is read of it -/
def Off (o : Int) (h h' : Hp) : Prop := ∀ c s, c ≠ o + 15 → c ≠ o + 16 → h' c s = h c s
theorem Off.rf {o : Int} {h : Hp} : Off o h h := fun _ _ _ _ => rfl
theorem Off.tr {o : Int} {a b c : Hp} (x : Off o a b) (y : Off o b c) : Off o a c := fun i s h1 h2 => by rw [y i s h1 h2, x i s h1 h2]
theorem Off.p1 {o : Int} {h : Hp} {s v : Int} : Off o h (hput h (o + 15) s v) := fun c _ h1 _ => hput_ne1 h1
theorem Off.p2 {o : Int} {h : Hp} {s v : Int} : Off o h (hput h (o + 16) s v) := fun c _ _ h2 => hput_ne1 h2
def AgR (h : Hp) (o : Int) (A : Ag) (V : Int → Prop) : Prop :=
  (∀ x y, V x → V y → Al_either (h o 3) x y h = some (aE A x y) ∧ Al_both (h o 3) x y h = some (aB A x y)) ∧
  (∀ t x, 0 ≤ t → t < 8 → V x → Al_placed (h o 3) t x h = some (aP A t x)) ∧
  (∀ i l, 0 ≤ i → i < h o 1 → 0 ≤ l → l < 26 → Al_letterAt (h o 3) i l h = some (aL A i l)) ∧ Al_one (h o 3) h = some (a1 A)
def ChS (h : Hp) (o P sz : Int) : Prop := ChO o ∧ h o 0 = P ∧ h o 1 = sz ∧ h o 4 = o + 15 ∧ h o 5 = o + 16 ∧ 0 ≤ sz ∧ sz ≤ 8
/-- the trees that are out, as a chart has them -/
def OuS (h : Hp) (o : Int) (ou : Int → Bool) : Prop := (∀ t, 0 ≤ t → t < 8 → bit (h o 2) t = if ou t then 1 else 0) ∧ 0 ≤ h o 2 ∧ h o 2 < 256
def Ev (h : Hp) (o P : Int) (G : Gm) (sz : Int) (ou : Int → Bool) (A : Ag) (V : Int → Prop) : Prop :=
  WF G ∧ RepX h P G ∧ ChS h o P sz ∧ AgL A V ∧ (∀ h', Off o h h' → AgR h' o A V) ∧ OuS h o ou
theorem off_P {o P : Int} (ho : ChO o) (hP : GrO P) : (∀ k, 0 ≤ k → k < 14 → P + k ≠ o + 15 ∧ P + k ≠ o + 16) ∧ o ≠ o + 15 ∧ o ≠ o + 16 := by
  refine ⟨fun k k0 k1 => ?_, by omega, by omega⟩
  rcases ho with rfl | rfl <;> rcases hP with rfl | rfl | rfl | rfl <;> omega
theorem Ev.off {h h' : Hp} {o P sz : Int} {G : Gm} {ou : Int → Bool} {A : Ag} {V : Int → Prop} (E : Ev h o P G sz ou A V) (F : Off o h h') : Ev h' o P G sz ou A V := by
  obtain ⟨W, R, C, L, S, U⟩ := E
  obtain ⟨z, e1, e2⟩ := off_P C.1 R.1
  have oo : ∀ s, h' o s = h o s := fun s => F o s e1 e2
  have pp : ∀ k s, 0 ≤ k → k < 14 → h' (P + k) s = h (P + k) s := fun k s k0 k1 => F _ s (z k k0 k1).1 (z k k0 k1).2
  have p0 : ∀ s, h' P s = h P s := fun s => by have := pp 0 s (by omega) (by omega); rwa [show P + 0 = P by omega] at this
  refine ⟨W, ?_, ?_, L, fun h'' F' => S h'' (F.tr F'), ?_⟩
  · unfold RepX GShp at R ⊢
    simp only [p0, pp 1 _ (by omega) (by omega), pp 2 _ (by omega) (by omega), pp 3 _ (by omega) (by omega), pp 4 _ (by omega) (by omega), pp 5 _ (by omega) (by omega), pp 6 _ (by omega) (by omega), pp 7 _ (by omega) (by omega), pp 8 _ (by omega) (by omega), pp 9 _ (by omega) (by omega), pp 10 _ (by omega) (by omega), pp 11 _ (by omega) (by omega), pp 12 _ (by omega) (by omega), pp 13 _ (by omega) (by omega)]
    exact R
  · unfold ChS at C ⊢
    simp only [oo]
    exact C
  · unfold OuS at U ⊢
    simp only [oo]
    exact U
/-- a node's row, by its half -/
def rwN (G : Gm) (half node : Int) : Int := (2 * node + (if kd G node = 0 then half else 1)) * 495
section
variable {h : Hp} {o P sz : Int} {G : Gm} {ou : Int → Bool} {A : Ag} {V : Int → Prop}
theorem Ch_row_ok (E : Ev h o P G sz ou A V) {half node : Int} (n0 : 0 ≤ node) (n1 : node < nN G) (hh : half = 0 ∨ half = 1) : Ch_row o node half h = some (rwN G half node) := by
  obtain ⟨W, R, C, L, S, U⟩ := E
  obtain ⟨k0, k1, k2, k3, k4⟩ := GrO_k R.1
  have nn := wf_nn W
  have c0 := ChO_k C.1
  have hk := (R.2.2.2.2.2.1 node n0 n1).2.1
  unfold Ch_row Ch_row_j20
  rw [C.2.1, R.2.1.2.2.1, if_pos c0.1, if_pos k0, if_pos ⟨k3.1, n0, by rw [k3.2]; omega⟩, hk]
  congr 1
  unfold rwN w32
  split <;> omega
theorem rwN_in (W : WF G) {half node : Int} (n0 : 0 ≤ node) (n1 : node < nN G) (hh : half = 0 ∨ half = 1) : 0 ≤ rwN G half node ∧ rwN G half node + 495 ≤ 39600 := by
  have nn := wf_nn W
  unfold rwN
  split <;> omega
/-- what a chart holds of a node over a span -/
def tv (h : Hp) (o : Int) (G : Gm) (half node i j p q : Int) : Int := h (o + 15) (rwN G half node + cI i j p q)
theorem cI_495 {i j p q : Int} (i0 : 0 ≤ i) (ip : i ≤ p) (pq : p ≤ q) (qj : q ≤ j) (j8 : j ≤ 8) : 0 ≤ cI i j p q ∧ cI i j p q < 495 := by
  have := cI_in i0 ip pq qj j8 (n := 9) (by omega) (by omega)
  exact ⟨this.1, by have e : sJ 9 = 495 := by decide
                    omega⟩
theorem Ch_value_ok (E : Ev h o P G sz ou A V) {half node i j p q : Int} (n0 : 0 ≤ node) (n1 : node < nN G) (hh : half = 0 ∨ half = 1) (i0 : 0 ≤ i) (ip : i ≤ p) (pq : p ≤ q) (qj : q ≤ j) (j8 : j ≤ sz) : Ch_value o node half i j p q h = some (tv h o G half node i j p q) := by
  have hr := Ch_row_ok E n0 n1 hh
  obtain ⟨W, R, C, L, S, U⟩ := E
  obtain ⟨k0, k1, k2, k3, k4⟩ := GrO_k R.1
  have c0 := ChO_k C.1
  have r1 := rwN_in W n0 n1 hh
  have r2 := cI_495 i0 ip pq qj (by have := C.2.2.2.2.2.2; omega)
  have ew : w32 (rwN G half node + cI i j p q) = rwN G half node + cI i j p q := by unfold w32; omega
  unfold Ch_value
  rw [if_neg (by omega), if_pos c0.1, C.2.1, if_pos k0, R.2.2.2.1, if_neg (by omega), if_neg (by omega), if_neg (by omega), if_neg (by omega), if_neg (by omega), C.2.2.1, if_pos j8, hr]
  simp only [ob_some]
  rw [Ch_cell_ok i0 ip pq qj (by have := C.2.2.2.2.2.2; omega)]
  simp only [ob_some]
  rw [ew, C.2.2.2.1, if_pos ⟨c0.2.1.1, by omega, by rw [c0.2.1.2]; omega⟩]
  rfl
theorem Ch_value_no (E : Ev h o P G sz ou A V) {half node i j p q : Int} (hn : node < 0 ∨ nN G ≤ node ∨ i < 0 ∨ p < i ∨ q < p ∨ j < q ∨ sz < j) : Ch_value o node half i j p q h = some 0 := by
  obtain ⟨W, R, C, L, S, U⟩ := E
  obtain ⟨k0, k1, k2, k3, k4⟩ := GrO_k R.1
  have c0 := ChO_k C.1
  unfold Ch_value
  rw [if_pos c0.1, C.2.1, if_pos k0, R.2.2.2.1, C.2.2.1]
  by_cases h1 : node < 0
  · rw [if_pos h1]
  rw [if_neg h1]
  by_cases h2 : nN G ≤ node
  · rw [if_pos h2]
  rw [if_neg h2]
  by_cases h3 : i < 0
  · rw [if_pos h3]
  rw [if_neg h3]
  by_cases h4 : p < i
  · rw [if_pos h4]
  rw [if_neg h4]
  by_cases h5 : q < p
  · rw [if_pos h5]
  rw [if_neg h5]
  by_cases h6 : j < q
  · rw [if_pos h6]
  rw [if_neg h6, if_neg (show ¬ j ≤ sz by omega)]
end
