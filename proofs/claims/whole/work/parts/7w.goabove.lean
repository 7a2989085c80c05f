/-! the class: above a node -/
abbrev Tk : Type := Dv × Int × Int × Int × Int × Int × Int × Int × Nat
def rawT (G : Gm) : Tk → Int × Int × Int
  | (_, s, half, node, i, j, p, q, k) => (2 * (12 * s + off G node) + half, cvr i j (cc p j) (cc q j), (k : Int))
def Tok (G : Gm) (o8 n : Int) (row : Int → Int) (st : St) : Tk → Prop
  | (d, s, half, node, i, j, p, q, k) => itm G half node i j p q ∧ j ≤ n ∧ k ≤ 1000000000000000 ∧ k < wW G (ouB o8) row half node i j p q ∧ Nth G (ouB o8) row d half node i j p q k ∧ ouB o8 (tr G node) = false ∧ 0 ≤ s ∧ s < (st.length : Int) ∧ (sEnt st s).1 = tr G node ∧ (half = 0 → kd G node = 0)
def layA (G : Gm) : List Tk → St → St
  | [], st => st
  | (d, s, _, node, _) :: r, st => layA G r (lay G d s node st)
def sumS : List Tk → Nat
  | [] => 0
  | (d, _) :: r => dvS d + sumS r
/-- what a turn leaves to be done -/
def Done (h h' : Hp) (G : Gm) (o8 n : Int) (row : Int → Int) (d : Dv) (s node : Int) (st : St) (ts : List (Int × Int × Int)) : Prop := ∃ (us : List Tk) (st' : St), FF h h' ∧ XTab h' 59 st' ∧ Fin3 h' (us.map (rawT G) ++ ts) ∧ (∀ u ∈ us, Tok G o8 n row st' u) ∧ Fresh st' ∧ layA G us st' = lay G d s node st ∧ sumS us + 1 ≤ dvS d ∧ st.length ≤ st'.length ∧ ∀ s' : Int, s' < (st.length : Int) → sEnt st' s' = sEnt st s'
theorem tk_le {w0 w1 κ : Nat} (hκ : κ ≤ 1000000000000000) (h : w0 * w1 ≤ κ) (h0 : w0 ≠ 0) : capN w1 ≤ w64 (Int.tdiv (κ : Int) (capN w0)) := by
  rw [cap_div hκ]
  have hd : κ / w0 ≤ κ := Nat.div_le_self _ _
  exact (cap_le (by omega)).mpr ((Nat.le_div_iff_mul_le (by omega)).mpr (by rw [Nat.mul_comm]; exact h))
theorem tk_lt {w0 w1 κ : Nat} (hκ : κ ≤ 1000000000000000) (h : κ < w0 * w1) : w0 ≠ 0 ∧ w1 ≠ 0 ∧ ¬ capN w1 ≤ w64 (Int.tdiv (κ : Int) (capN w0)) := by
  have h0 : w0 ≠ 0 := fun z => by rw [z, Nat.zero_mul] at h; exact Nat.not_lt_zero _ h
  refine ⟨h0, fun z => by rw [z, Nat.mul_zero] at h; exact Nat.not_lt_zero _ h, ?_⟩
  rw [cap_div hκ]
  have hd : κ / w0 ≤ κ := Nat.div_le_self _ _
  intro z
  have := (cap_le (by omega)).mp z
  have := (Nat.le_div_iff_mul_le (by omega)).mp this
  rw [Nat.mul_comm] at this
  omega
theorem tk_off {w0 w1 κ : Nat} (hκ : κ ≤ 1000000000000000) (h : w0 * w1 ≤ κ) (h0 : w0 ≠ 0) (h1 : w1 ≠ 0) : w64 ((κ : Int) - w64 (capN w0 * capN w1)) = ((κ - w0 * w1 : Nat) : Int) := by
  have a0 : w0 ≤ w0 * w1 := Nat.le_mul_of_pos_right _ (by omega)
  have a1 : w1 ≤ w0 * w1 := Nat.le_mul_of_pos_left _ (by omega)
  rw [capN_small (by omega), capN_small (by omega), ← Int.natCast_mul]
  generalize w0 * w1 = m at *
  have : w64 (m : Int) = m := by unfold w64; omega
  rw [this]
  unfold w64
  omega
section
variable {h h' g : Hp} {P o8 n : Int} {G : Gm} {row : Int → Int}
theorem fC_prod {ou : Int → Bool} (W : WF G) {node i j p q t a c : Int} (hi : itm G 1 node i j p q) (t0 : 0 ≤ t) (t1 : t < nT G) (hs : sp G (ft G t) = 1) (a0 : i ≤ a) (a1 : a ≤ (if p = -1 then j else p)) (c0 : (if p = -1 then a else q) ≤ c) (c1' : c ≤ j) : fC G ou row node i j p q t a c = wW G ou row 0 node a c p q * wW G ou row 1 (ft G t) i j a c := by
  obtain ⟨f1, f2, f3, -⟩ := around_items W hi t0 t1 hs a0 a1 c0 c1'
  unfold fC wAround
  by_cases hr : nd G (ft G t) ≤ cov i j a c ∧ nd G node ≤ cov a c p q
  · rw [if_pos hr]
  · rw [if_neg hr]
    by_cases h1 : nd G (ft G t) ≤ cov i j a c
    · rw [wW_z W f1 (by omega), Nat.zero_mul]
    · rw [wW_z W f2 (by omega), Nat.mul_zero]
def pg4 (a c w s' : Int) (f : Hp) : Option (Int × Hp) := ob (WF_cover (f 55 10) (f 55 11) a c) (fun r215 => ob (WF_push 55 s' 0 1 r215 (w64 (Int.tdiv (f 55 9) w)) f) (fun r225 => some (1, r225)))
def pg3 (t a c w : Int) (f : Hp) : Option (Int × Hp) := if kK (f 55 2) = 8 then ob (Wy_addStep (f 55 2) t (f 55 7) (f 55 8) f) (fun r193 => pg4 a c w r193.1 r193.2) else none
def pg2 (t a c w r167 : Int) (f : Hp) : Option (Int × Hp) := if w ≠ 0 then ob (WF_push 55 (f 55 7) (f 55 8) 0 r167 (w64 (Int.tmod (f 55 9) w)) f) (fun r177 => pg3 t a c w r177) else none
def pgQ (t : Int) (z : (Int × Int × Int × Int × Int × Hp) ⊕ (Hp)) : Option (Int × Hp) :=
  match z with
  | .inl e149 => ob (WF_cover e149.1 e149.2.1 e149.2.2.1 e149.2.2.2.1) (fun r167 => pg2 t e149.1 e149.2.1 e149.2.2.2.2.1 r167 e149.2.2.2.2.2)
  | .inr e274 => some (0, e274)
theorem putGuest_eq (node t : Int) (h : Hp) : WF_putGuest 55 node t h = if kK 55 = 9 then if kK (h 55 1) = 3 then if kK (h (h 55 1) 15) = 23 ∧ (0 : Int) ≤ node ∧ node < kL (h (h 55 1) 15) then ob (loopN (fun q => WF_putGuest_L16 55 node t (h (h (h 55 1) 15) node) q.1 q.2) LN (h 55 10, h)) (fun z => pgQ t z) else none else none else none := rfl
/-- the terms as the class has them: none of a tree that is out -/
def fc (G : Gm) (o8 : Int) (row : Int → Int) (node i j p q t a : Int) : Int → Nat := fun c => if ouB o8 t = true then 0 else fC G (ouB o8) row node i j p q t a c
def fa (G : Gm) (o8 : Int) (row : Int → Int) (node i j p q t : Int) : Int → Nat := fun a => sI (fc G o8 row node i j p q t a) (if p = -1 then a else q) j
theorem L40_step (E : FEnv h P G o8 n row) {node i j p q t a c : Int} {κ : Nat} (hi : itm G 1 node i j p q) (jn : j ≤ n) (ho : ouB o8 (tr G node) = false) (t0 : 0 ≤ t) (t1 : t < nT G) (hs : sp G (ft G t) = 1) (a0 : i ≤ a) (a1 : a ≤ (if p = -1 then j else p)) (c0 : (if p = -1 then a else q) ≤ c) (c1' : c ≤ j) (hκ : κ ≤ 1000000000000000) (f10 : h 55 10 = i) (f11 : h 55 11 = j) (f12 : h 55 12 = cc p j) (f13 : h 55 13 = cc q j) (f9 : h 55 9 = (κ : Int)) :
    (fc G o8 row node i j p q t a c ≤ κ → ∃ g', WF_putGuest_L40 55 node t (sp G node) a c h = some (.inl (c + 1, g')) ∧ R9 h g' ∧ g' 55 9 = ((κ - fc G o8 row node i j p q t a c : Nat) : Int)) ∧ (κ < fc G o8 row node i j p q t a c → WF_putGuest_L40 55 node t (sp G node) a c h = some (.inr (.inl (c, cc p c, cc q c, capN (wW G (ouB o8) row 0 node a c p q), h)))) := by
  have B := E.2.1
  have W := bx_W B
  have nt := wf_nt W
  have R := bx_R B
  have j8 := hi.2.2.2.2.2.1
  have sp' := itm_span hi
  obtain ⟨g0, g1, -⟩ := GrO_k R.1
  obtain ⟨u1, u2, u3, -⟩ := around_items W hi t0 t1 hs a0 a1 c0 c1'
  have su1 := itm_span u1
  have su2 := itm_span u2
  have e1 : h 55 1 = P := E.1.2.1
  have e0 : h 55 0 = 21 := E.1.1
  have e6 : h P 6 = P + 1 := R.2.1.1
  have ey : h (P + 1) t = ft G t := R.2.2.2.2.1 t t0 (by omega)
  have v1 := val_no B E.2.2.1 u1 (show c ≤ n by omega)
  rw [ho] at v1
  have v2 := val_no B E.2.2.1 u2 jn
  rw [cc_yes j (by omega), cc_yes j (by omega), (root_in W t0 t1).2.2] at v2
  have ew : w32 (c + 1) = c + 1 := by unfold w32; omega
  have hgs : (if sp G node = 0 then c else h 55 12) = cc p c := by
    rw [f12]
    unfold cc
    rcases hi.2.2.2.2.2.2 with ⟨z, z1, z2, z3⟩ | ⟨z, z1, z2⟩
    · rw [if_neg (by omega), if_neg (by omega), if_neg (by omega)]
    · rw [if_pos z, if_pos z1]
  have hge : (if sp G node = 0 then WF_putGuest_j77 55 node t (sp G node) a c (cc p c) c h else WF_putGuest_j77 55 node t (sp G node) a c (cc p c) (h 55 13) h) = WF_putGuest_j77 55 node t (sp G node) a c (cc p c) (cc q c) h := by
    rw [f13]
    unfold cc
    rcases hi.2.2.2.2.2.2 with ⟨z, z1, z2, z3⟩ | ⟨z, z1, z2⟩
    · rw [if_neg (by omega), if_neg (by omega), if_neg (by omega), if_neg (by omega)]
    · rw [if_pos z, if_pos z2]
  have go : WF_putGuest_L40 55 node t (sp G node) a c h = WF_putGuest_j77 55 node t (sp G node) a c (cc p c) (cc q c) h := by
    unfold WF_putGuest_L40
    rw [if_pos kK_55, f11, if_neg (by omega), hgs]
    unfold WF_putGuest_j62
    rw [if_pos kK_55, hge]
  have p1 := fC_prod (ou := ouB o8) (row := row) W hi t0 t1 hs a0 a1 c0 c1'
  rw [go]
  unfold WF_putGuest_j77
  rw [if_pos kK_55, e0, if_pos (by decide), v1, ob_some, e1, if_pos g0, e6, if_pos ⟨g1.1, t0, by rw [g1.2]; omega⟩, ey, f10, f11, v2, ob_some, f9]
  simp only [Bool.false_eq_true, if_false]
  have off0 : ∀ x : Int, x = 0 → ∃ g', WF_putGuest_j258 55 node t (sp G node) a c x (κ : Int) 55 h = some (.inl (c + 1, g')) ∧ R9 h g' ∧ g' 55 9 = ((κ - 0 : Nat) : Int) := by
    intro x hx
    subst hx
    unfold WF_putGuest_j258
    rw [if_pos kK_55, ew, show w64 ((κ : Int) - 0) = κ by unfold w64; omega]
    refine ⟨_, rfl, ?_, by rw [hput_eq]; rfl⟩
    intro x s z
    rcases z with z | z
    · exact hput_ne1 z
    · exact hput_ne2 z
  unfold fc
  by_cases hu : ouB o8 t = true
  · rw [if_pos hu, if_pos hu]
    refine ⟨fun _ => ?_, fun z => absurd z (Nat.not_lt_zero _)⟩
    have cn := capN_in (wW G (ouB o8) row 0 node a c p q)
    have td : 0 ≤ w64 (Int.tdiv (κ : Int) (capN (wW G (ouB o8) row 0 node a c p q))) := by rw [cap_div hκ]; exact Int.natCast_nonneg _
    have fin : ∃ g', WF_putGuest_j230 55 node t (sp G node) a c (capN (wW G (ouB o8) row 0 node a c p q)) 0 h = some (.inl (c + 1, g')) ∧ R9 h g' ∧ g' 55 9 = ((κ - 0 : Nat) : Int) := by
      unfold WF_putGuest_j230 WF_putGuest_j257
      rw [if_pos kK_55, f9, if_pos (Int.le_refl 0)]
      by_cases hz : capN (wW G (ouB o8) row 0 node a c p q) ≤ 0
      · rw [if_pos hz]; exact off0 0 rfl
      · rw [if_neg hz]; exact off0 0 rfl
    by_cases hz : capN (wW G (ouB o8) row 0 node a c p q) ≤ 0
    · rw [if_pos hz]; exact fin
    · rw [if_neg hz, if_pos (show capN (wW G (ouB o8) row 0 node a c p q) ≠ 0 by omega), if_pos td]; exact fin
  · rw [if_neg hu, if_neg hu, p1]
    generalize wW G (ouB o8) row 0 node a c p q = w0
    generalize wW G (ouB o8) row 1 (ft G t) i j a c = w1
    refine ⟨fun hf => ?_, fun hf => ?_⟩
    · have fin : ∃ g', WF_putGuest_j230 55 node t (sp G node) a c (capN w0) (capN w1) h = some (.inl (c + 1, g')) ∧ R9 h g' ∧ g' 55 9 = ((κ - w0 * w1 : Nat) : Int) := by
        have c0' := capN_in w0
        have c1'' := capN_in w1
        unfold WF_putGuest_j230 WF_putGuest_j257
        rw [if_pos kK_55, f9]
        by_cases h0 : w0 = 0
        · subst h0
          rw [if_pos (by decide), Nat.zero_mul]
          exact off0 0 rfl
        · rw [if_neg (fun z => h0 (capN_0.mp (by omega)))]
          by_cases h1 : w1 = 0
          · subst h1
            rw [if_pos (by decide), Nat.mul_zero]
            exact off0 0 rfl
          · rw [if_neg (fun z => h1 (capN_0.mp (by omega)))]
            unfold WF_putGuest_j258
            rw [if_pos kK_55, ew, tk_off hκ hf h0 h1]
            refine ⟨_, rfl, ?_, hput_eq _ _ _ _⟩
            intro x s z
            rcases z with z | z
            · exact hput_ne1 z
            · exact hput_ne2 z
      by_cases h0 : w0 = 0
      · rw [if_pos (show capN w0 ≤ 0 by rw [h0]; decide)]; exact fin
      · have c0' := capN_in w0
        have cn : capN w0 ≠ 0 := fun z => h0 (capN_0.mp z)
        rw [if_neg (show ¬ capN w0 ≤ 0 by omega), if_pos cn, if_pos (tk_le hκ hf h0)]
        exact fin
    · obtain ⟨h0, h1, h2⟩ := tk_lt hκ hf
      have c0' := capN_in w0
      have cn : capN w0 ≠ 0 := fun z => h0 (capN_0.mp z)
      rw [if_neg (show ¬ capN w0 ≤ 0 by omega), if_pos cn, if_neg h2]
end
