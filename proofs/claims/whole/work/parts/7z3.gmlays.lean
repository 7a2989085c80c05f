/-! grammar: the reference reckons letters, feet and places of each tree -/
section
variable {g f f0 : Hp} {t n : Int} {dd : Int → Dv} {G : Gm}
theorem j117_ok {its l3 : Int} (S : MShp f) (n0 : 0 ≤ n) (n1 : n < 40) (hi : its = -1 ∨ (0 ≤ its ∧ its < 40 ∧ its ≠ n)) (hl : l3 = 0 ∨ l3 = 1) (bn : 0 ≤ f 129 n ∧ f 129 n ≤ 100) (bi : its ≠ -1 → 0 ≤ f 129 its ∧ f 129 its ≤ 100) : ∃ f', M_laysTree_j117 121 t n l3 its f = some (.inl (l3 + 1, f')) ∧ (∀ c s, ((c ≠ 129 ∧ c ≠ 130) ∨ s ≠ n) → f' c s = f c s) ∧ f' 129 n = f 129 n + (if its = -1 then 0 else f 129 its) ∧ f' 130 n = (if its = -1 then f 130 n else if f 130 n = 0 ∧ f 130 its = 0 then 0 else 1) := by
  have wl : w32 (l3 + 1) = l3 + 1 := by unfold w32; omega
  unfold M_laysTree_j117 M_laysTree_j174
  by_cases hz : its = -1
  · rw [if_pos hz, wl]
    exact ⟨f, rfl, fun _ _ _ => rfl, by rw [if_pos hz]; omega, by rw [if_pos hz]⟩
  · have bi := bi hz
    have ib := hi.resolve_left hz
    have s13 : f 121 13 = 129 := ms_at S (by decide)
    have e1 : ∀ v, (hput f 129 n v) 121 14 = 130 := fun v => by rw [hput_ne1 (by decide)]; exact ms_at S (by decide)
    have e2 : ∀ v m, (hput f 129 n v) 130 m = f 130 m := fun v m => hput_ne1 (by decide)
    have ww : w32 (f 129 n + f 129 its) = f 129 n + f 129 its := by unfold w32; omega
    have fin : ∀ v, (v = 0 ∨ v = 1) → (v = if f 130 n = 0 ∧ f 130 its = 0 then 0 else 1) → ∃ f', M_laysTree_j173 121 t n l3 v n 130 (hput f 129 n (f 129 n + f 129 its)) = some (.inl (l3 + 1, f')) ∧ (∀ c s, ((c ≠ 129 ∧ c ≠ 130) ∨ s ≠ n) → f' c s = f c s) ∧ f' 129 n = f 129 n + (if its = -1 then 0 else f 129 its) ∧ f' 130 n = (if its = -1 then f 130 n else if f 130 n = 0 ∧ f 130 its = 0 then 0 else 1) := by
      intro v hv hv2
      unfold M_laysTree_j173 M_laysTree_j174
      rw [if_pos ⟨by decide, n0, by rw [show kL 130 = 40 by decide]; omega⟩, if_pos hv, wl]
      refine ⟨_, rfl, fun c s z => ?_, ?_, ?_⟩
      · rw [hput_no (by omega), hput_no (by omega)]
      · rw [hput_ne1 (by decide), hput_eq, if_neg hz]
      · rw [hput_eq, if_neg hz]; exact hv2
    rw [if_neg hz, if_pos kK_121, s13, if_pos ⟨by decide, n0, by rw [show kL 129 = 40 by decide]; omega⟩, if_pos ⟨by decide, ib.1, by rw [show kL 129 = 40 by decide]; omega⟩, ww]
    simp only
    rw [e1, if_pos ⟨by decide, n0, by rw [show kL 130 = 40 by decide]; omega⟩, e2]
    unfold M_laysTree_j168
    by_cases h1 : f 130 n = 0
    · rw [if_pos h1, if_pos ⟨by decide, ib.1, by rw [show kL 130 = 40 by decide]; omega⟩, e2]
      by_cases h2 : f 130 its = 0
      · rw [if_pos h2]
        exact fin 0 (Or.inl rfl) (by rw [if_pos ⟨h1, h2⟩])
      · rw [if_neg h2]
        exact fin 1 (Or.inr rfl) (by rw [if_neg (fun z => h2 z.2)])
    · rw [if_neg h1]
      exact fin 1 (Or.inr rfl) (by rw [if_neg (fun z => h1 z.1)])
theorem L93_ok {a b : Int} (S : MShp f) (n0 : 0 ≤ n) (n1 : n < 40) (ea : f 126 n = a) (eb : f 127 n = b) (ha : a = -1 ∨ (0 ≤ a ∧ a < 40 ∧ a ≠ n)) (hb : b = -1 ∨ (0 ≤ b ∧ b < 40 ∧ b ≠ n)) (bn : 0 ≤ f 129 n ∧ f 129 n ≤ 1) (bi : ∀ m, m ≠ n → (m = a ∨ m = b) → m ≠ -1 → 0 ≤ f 129 m ∧ f 129 m ≤ 40) : ∃ f', loopN (fun q => M_laysTree_L93 121 t n q.1 q.2) LN (0, f) = some f' ∧ (∀ c s, ((c ≠ 129 ∧ c ≠ 130) ∨ s ≠ n) → f' c s = f c s) ∧ f' 129 n = f 129 n + (if a = -1 then 0 else f 129 a) + (if b = -1 then 0 else f 129 b) ∧ f' 130 n = (let v := (if a = -1 then f 130 n else if f 130 n = 0 ∧ f 130 a = 0 then 0 else 1); if b = -1 then v else if v = 0 ∧ f 130 b = 0 then 0 else 1) := by
  have s8 : f 121 8 = 126 := ms_at S (by decide)
  have s9 : f 121 9 = 127 := ms_at S (by decide)
  obtain ⟨f1, e1, F1, x1, y1⟩ := j117_ok (t := t) (its := a) (l3 := 0) S n0 n1 ha (Or.inl rfl) (by omega) (fun z => by
    have := bi a (by omega) (Or.inl rfl) z
    omega)
  have S1 : MShp f1 := fun q hq => by rw [F1 121 q.1 (Or.inl (by decide))]; exact S q hq
  have ab : 0 ≤ (if a = -1 then 0 else f 129 a) ∧ (if a = -1 then 0 else f 129 a) ≤ 40 := by
    by_cases z : a = -1
    · rw [if_pos z]; decide
    · rw [if_neg z]; exact bi a (by omega) (Or.inl rfl) z
  have b129 : b ≠ -1 → f1 129 b = f 129 b ∧ f1 130 b = f 130 b := fun z => ⟨F1 129 b (Or.inr (by omega)), F1 130 b (Or.inr (by omega))⟩
  obtain ⟨f2, e2, F2, x2, y2⟩ := j117_ok (t := t) (its := b) (l3 := 1) S1 n0 n1 hb (Or.inr rfl) (by rw [x1]; omega) (fun z => by
    have := bi b (by omega) (Or.inr rfl) z
    rw [(b129 z).1]
    omega)
  have d0 : (fun q : Int × Hp => M_laysTree_L93 121 t n q.1 q.2) (0, f) = some (.inl (1, f1)) := by
    show M_laysTree_L93 121 t n 0 f = _
    unfold M_laysTree_L93
    rw [if_neg (by decide), if_pos rfl, if_pos kK_121, s8, if_pos ⟨by decide, n0, by rw [show kL 126 = 80 by decide]; omega⟩, ea, e1]
    rfl
  have d1 : (fun q : Int × Hp => M_laysTree_L93 121 t n q.1 q.2) (1, f1) = some (.inl (2, f2)) := by
    show M_laysTree_L93 121 t n 1 f1 = _
    unfold M_laysTree_L93
    rw [if_neg (by decide), if_neg (by decide), if_pos kK_121, F1 121 9 (Or.inl (by decide)), s9, if_pos ⟨by decide, n0, by rw [show kL 127 = 80 by decide]; omega⟩, F1 127 n (Or.inl (by decide)), eb, e2]
    rfl
  have d2 : (fun q : Int × Hp => M_laysTree_L93 121 t n q.1 q.2) (2, f2) = some (.inr f2) := by
    show M_laysTree_L93 121 t n 2 f2 = _
    unfold M_laysTree_L93
    rw [if_pos (by decide)]
  refine ⟨f2, ?_, fun c s z => by rw [F2 c s z, F1 c s z], ?_, ?_⟩
  · rw [show LN = 999997 + 1 + 1 + 1 from rfl, loopN_go d0, loopN_go d1, loopN_end d2]
  · rw [x2, x1]
    by_cases z : b = -1
    · rw [if_pos z, if_pos z]
    · rw [if_neg z, if_neg z, (b129 z).1]
  · simp only
    rw [y2, y1]
    by_cases z : b = -1
    · rw [if_pos z, if_pos z]
    · rw [if_neg z, if_neg z, (b129 z).2]
def fkA (G : Gm) (t k n : Int) : Int := if fsA G k (n + 1) (ft G (t + 1) - (n + 1)).toNat = -1 then -1 else fsA G k (n + 1) (ft G (t + 1) - (n + 1)).toNat - ft G t
def plA (G : Gm) (t n : Int) : Nat := sI (fun m => if kd G m = 4 then 1 else 0) (n + 1) (ft G (t + 1) - 1)
def BRw (f : Hp) (G : Gm) : Prop := MShp f ∧ (∀ s, 0 ≤ s → s ≤ nT G → f 122 s = ft G s) ∧ ∀ m, 0 ≤ m → m < nN G → f 123 m = kd G m ∧ f 126 m = c1 G m ∧ f 127 m = c2 G m
def LTI (G : Gm) (t n : Int) (f0 f : Hp) : Prop := (∀ m, n < m → m < ft G (t + 1) → f 131 m = t ∧ f 129 m = nd G m ∧ f 130 m = sp G m) ∧ f 132 t = fkA G t 3 n ∧ f 133 t = fkA G t 1 n ∧ f 134 t = plA G t n ∧ ∀ c s, (c < 129 ∨ 131 < c ∨ s < ft G t ∨ ft G (t + 1) ≤ s) → (c < 132 ∨ 134 < c ∨ s ≠ t) → f c s = f0 c s
theorem fkA_s {k : Int} (h : n < ft G (t + 1)) : fkA G t k (n - 1) = if kd G n = k then (if n = -1 then -1 else n - ft G t) else fkA G t k n := by
  unfold fkA
  obtain ⟨m, hm⟩ : ∃ m : Nat, (ft G (t + 1) - n).toNat = m + 1 := ⟨(ft G (t + 1) - n).toNat - 1, by omega⟩
  rw [show n - 1 + 1 = n by omega, hm, fsA_s, show (ft G (t + 1) - (n + 1)).toNat = m by omega]
  by_cases z : kd G n = k
  · rw [if_pos z, if_pos z]
  · rw [if_neg z, if_neg z]
theorem plA_s (h : n < ft G (t + 1)) : plA G t (n - 1) = (if kd G n = 4 then 1 else 0) + plA G t n := by
  unfold plA
  rw [show n - 1 + 1 = n by omega, sI_app (a := n) (b := n) (by omega) (by omega), sI_succ (Int.le_refl n), sI_none (by omega)]
  omega
theorem plA_le : plA G t n ≤ 1 * 1000 ∨ 1000 < ft G (t + 1) - (n + 1) := by
  by_cases z : ft G (t + 1) - 1 + 1 - (n + 1) ≤ 1000
  · exact Or.inl (sI_bd (fun x => by split <;> decide) z)
  · exact Or.inr (by omega)
def lyC (l0 l1 l2 : Int) (e180 : Hp) : Option ((Int × Hp) ⊕ Hp) := if kK l0 = 11 then if kK (e180 l0 5) = 21 ∧ (0 : Int) ≤ l2 ∧ l2 < kL (e180 l0 5) then if e180 (e180 l0 5) l2 = 3 then if kK (e180 l0 4) = 21 ∧ (0 : Int) ≤ l1 ∧ l1 < kL (e180 l0 4) then if kK (e180 l0 16) = 21 ∧ (0 : Int) ≤ l1 ∧ l1 < kL (e180 l0 16) then M_laysTree_j204 l0 l1 l2 (hput e180 (e180 l0 16) l1 (w32 (l2 - (e180 (e180 l0 4) l1)))) else none else none else M_laysTree_j204 l0 l1 l2 e180 else none else none
theorem j90_eq (l0 l1 l2 s0 s1 s2 : Int) (h : Hp) : M_laysTree_j90 l0 l1 l2 s0 s1 s2 h = if kK s2 = 23 ∧ (0 : Int) ≤ s1 ∧ s1 < kL s2 then if s0 = 0 ∨ s0 = 1 then ob (loopN (fun q => M_laysTree_L93 l0 l1 l2 q.1 q.2) LN (0, hput h s2 s1 s0)) (fun e => lyC l0 l1 l2 e) else none else none := rfl
theorem lyC_ok {e : Hp} (S : MShp e) (K : kd G n = e 123 n) (n0 : 0 ≤ n) (n1 : n < 40) (t0 : 0 ≤ t) (t1 : t < 8) (e4 : e 122 t = ft G t) (fb : 0 ≤ ft G t ∧ ft G t ≤ n) (p4 : 0 ≤ e 134 t ∧ e 134 t ≤ 1000) : ∃ f', lyC 121 t n e = some (.inl (n - 1, f')) ∧ (∀ c s, (c < 132 ∨ 134 < c ∨ s ≠ t) → f' c s = e c s) ∧ f' 132 t = (if kd G n = 3 then n - ft G t else e 132 t) ∧ f' 133 t = (if kd G n = 1 then n - ft G t else e 133 t) ∧ f' 134 t = e 134 t + (if kd G n = 4 then 1 else 0) := by
  have s5 : e 121 5 = 123 := ms_at S (by decide)
  have s4 : e 121 4 = 122 := ms_at S (by decide)
  have s16 : e 121 16 = 132 := ms_at S (by decide)
  have s17 : e 121 17 = 133 := ms_at S (by decide)
  have s18 : e 121 18 = 134 := ms_at S (by decide)
  have w1 : w32 (n - ft G t) = n - ft G t := by unfold w32; omega
  have k5 : kK 123 = 21 ∧ (0 : Int) ≤ n ∧ n < kL 123 := ⟨by decide, n0, by rw [show kL 123 = 80 by decide]; omega⟩
  have k4 : kK 122 = 21 ∧ (0 : Int) ≤ t ∧ t < kL 122 := ⟨by decide, t0, by rw [show kL 122 = 18 by decide]; omega⟩
  have k16 : kK 132 = 21 ∧ (0 : Int) ≤ t ∧ t < kL 132 := ⟨by decide, t0, by rw [show kL 132 = 8 by decide]; omega⟩
  have k17 : kK 133 = 21 ∧ (0 : Int) ≤ t ∧ t < kL 133 := ⟨by decide, t0, by rw [show kL 133 = 8 by decide]; omega⟩
  have k18 : kK 134 = 21 ∧ (0 : Int) ≤ t ∧ t < kL 134 := ⟨by decide, t0, by rw [show kL 134 = 8 by decide]; omega⟩
  have j228 : ∀ x : Hp, x 121 18 = 134 → x 121 5 = 123 → x 123 n = kd G n → x 134 t = e 134 t → M_laysTree_j228 121 t n x = some (.inl (n - 1, hput x 134 t (e 134 t + (if kd G n = 4 then 1 else 0)))) := by
    intro x a1 a2 a3 a4
    unfold M_laysTree_j228 M_laysTree_j250
    rw [if_pos kK_121, a1, if_pos k18, a2, if_pos k5, a3, a4, if_pos k18, show w32 (n + (-1)) = n - 1 by unfold w32; omega]
    by_cases z : kd G n = 4
    · rw [if_pos z, show w32 (e 134 t + 1) = e 134 t + 1 by unfold w32; omega]
    · rw [if_neg z, show w32 (e 134 t + 0) = e 134 t + 0 by unfold w32; omega]
  have j204 : ∀ x : Hp, x 121 18 = 134 → x 121 5 = 123 → x 121 4 = 122 → x 121 17 = 133 → x 122 t = ft G t → x 123 n = kd G n → x 134 t = e 134 t → M_laysTree_j204 121 t n x = some (.inl (n - 1, hput (if kd G n = 1 then hput x 133 t (n - ft G t) else x) 134 t (e 134 t + (if kd G n = 4 then 1 else 0)))) := by
    intro x a1 a2 a3 a4 a5 a6 a7
    unfold M_laysTree_j204
    rw [if_pos kK_121, a2, if_pos k5, a6]
    by_cases z : kd G n = 1
    · rw [if_pos z, a3, if_pos k4, a4, if_pos k17, a5, w1, if_pos z]
      simp only
      exact j228 _ (by rw [hput_ne1 (by decide)]; exact a1) (by rw [hput_ne1 (by decide)]; exact a2) (by rw [hput_ne1 (by decide)]; exact a6) (by rw [hput_ne1 (by decide)]; exact a7)
    · rw [if_neg z, if_neg z]
      exact j228 x a1 a2 a6 a7
  unfold lyC
  rw [if_pos kK_121, s5, if_pos k5, ← K]
  by_cases z3 : kd G n = 3
  · have z1 : ¬ kd G n = 1 := by omega
    rw [if_pos z3, s4, if_pos k4, s16, if_pos k16, e4, w1, j204 _ (by rw [hput_ne1 (by decide)]; exact s18) (by rw [hput_ne1 (by decide)]; exact s5) (by rw [hput_ne1 (by decide)]; exact s4) (by rw [hput_ne1 (by decide)]; exact s17) (by rw [hput_ne1 (by decide)]; exact e4) (by rw [hput_ne1 (by decide)]; exact K.symm) (hput_ne1 (by decide)), if_neg z1]
    refine ⟨_, rfl, fun c s h => by rw [hput_no (by omega), hput_no (by omega)], ?_, ?_, ?_⟩
    · rw [hput_ne1 (by decide), hput_eq, if_pos z3]
    · rw [hput_ne1 (by decide), hput_ne1 (by decide), if_neg z1]
    · rw [hput_eq]
  · rw [if_neg z3, j204 e s18 s5 s4 s17 e4 K.symm rfl]
    refine ⟨_, rfl, fun c s h => ?_, ?_, ?_, ?_⟩
    · rw [hput_no (by omega)]
      split
      · rw [hput_no (by omega)]
      · rfl
    · rw [hput_ne1 (by decide), if_neg z3]
      split
      · rw [hput_ne1 (by decide)]
      · rfl
    · rw [hput_ne1 (by decide)]
      split
      · rw [hput_eq]
      · rfl
    · rw [hput_eq]
theorem lays1 (K : GOK G dd) (BR : BRw f0 G) (I : LTI G t n f0 f) (t0 : 0 ≤ t) (t1 : t < nT G) (a : ft G t ≤ n) (b : n < ft G (t + 1)) : ∃ f', M_laysTree_L32 121 t n f = some (.inl (n - 1, f')) ∧ LTI G t (n - 1) f0 f' := by
  obtain ⟨S0, B0, R0⟩ := BR
  obtain ⟨i1, i2, i3, i4, i5⟩ := I
  have T8 := K.1
  have N40 := K.2.1
  have ft0 := GOK_in K t0 (by omega)
  have ft1 := GOK_in K (t := t + 1) (by omega) (by omega)
  have W := GOK_WF K
  obtain ⟨w1, w2, w3, w4, w5, w6, w7, w8, w9, w10, w11, w12, w13⟩ := W
  have trn : tr G n = t := w6 n t t0 t1 a b
  have ft12 := (w4 t t0 t1).2
  have e121 : ∀ s, f 121 s = f0 121 s := fun s => i5 121 s (by omega) (by omega)
  have S : MShp f := fun q hq => by rw [e121]; exact S0 q hq
  have s4 : f 121 4 = 122 := ms_at S (by decide)
  have s15 : f 121 15 = 131 := ms_at S (by decide)
  have r123 : f 123 n = kd G n := by rw [i5 123 n (by omega) (by omega)]; exact (R0 n (by omega) (by omega)).1
  have r126 : f 126 n = c1 G n := by rw [i5 126 n (by omega) (by omega)]; exact (R0 n (by omega) (by omega)).2.1
  have r127 : f 127 n = c2 G n := by rw [i5 127 n (by omega) (by omega)]; exact (R0 n (by omega) (by omega)).2.2
  have r122 : f 122 t = ft G t := by rw [i5 122 t (by omega) (by omega)]; exact B0 t t0 (by omega)
  have kn := w7 n (by omega) (by omega)
  -- the three rows written first
  have p : ∀ {h : Hp} {c v : Int} (i : Int), c ≠ 121 → (hput h c n v) 121 i = h 121 i := fun i hc => hput_ne1 (fun z => hc z.symm)
  have v1 : (if kd G n = 1 then (1 : Int) else 0) = 0 ∨ (if kd G n = 1 then (1 : Int) else 0) = 1 := by split <;> decide
  have v3 : (if kd G n = 3 then (1 : Int) else 0) = 0 ∨ (if kd G n = 3 then (1 : Int) else 0) = 1 := by split <;> decide
  have h6c : ∀ c s, (c ≠ 129 ∧ c ≠ 130 ∧ c ≠ 131) ∨ s ≠ n → (hput (hput (hput f 131 n t) 129 n (if kd G n = 1 then 1 else 0)) 130 n (if kd G n = 3 then 1 else 0)) c s = f c s := fun c s z => by rw [hput_no (by omega), hput_no (by omega), hput_no (by omega)]
  have h6a : (hput (hput (hput f 131 n t) 129 n (if kd G n = 1 then 1 else 0)) 130 n (if kd G n = 3 then 1 else 0)) 129 n = (if kd G n = 1 then 1 else 0) := by rw [hput_ne1 (by decide), hput_eq]
  have h6b : (hput (hput (hput f 131 n t) 129 n (if kd G n = 1 then 1 else 0)) 130 n (if kd G n = 3 then 1 else 0)) 130 n = (if kd G n = 3 then 1 else 0) := hput_eq ..
  have h6d : (hput (hput (hput f 131 n t) 129 n (if kd G n = 1 then 1 else 0)) 130 n (if kd G n = 3 then 1 else 0)) 131 n = t := by rw [hput_ne1 (by decide), hput_ne1 (by decide), hput_eq]
  have start : M_laysTree_L32 121 t n f = ob (loopN (fun q => M_laysTree_L93 121 t n q.1 q.2) LN (0, hput (hput (hput f 131 n t) 129 n (if kd G n = 1 then 1 else 0)) 130 n (if kd G n = 3 then 1 else 0))) (fun e => lyC 121 t n e) := by
    unfold M_laysTree_L32
    rw [if_pos kK_121, s4, if_pos ⟨by decide, t0, by rw [show kL 122 = 18 by decide]; omega⟩, r122, if_neg (by omega), s15, if_pos ⟨by decide, by omega, by rw [show kL 131 = 40 by decide]; omega⟩]
    simp only
    have q5 : (hput f 131 n t) 121 5 = 123 := by rw [p 5 (by decide)]; exact ms_at S (by decide)
    have q13 : (hput f 131 n t) 121 13 = 129 := by rw [p 13 (by decide)]; exact ms_at S (by decide)
    have q123 : (hput f 131 n t) 123 n = kd G n := by rw [hput_ne1 (by decide)]; exact r123
    rw [q5, if_pos ⟨by decide, by omega, by rw [show kL 123 = 80 by decide]; omega⟩, q123, q13]
    unfold M_laysTree_j69
    rw [if_pos ⟨by decide, by omega, by rw [show kL 129 = 40 by decide]; omega⟩]
    simp only
    rw [if_pos kK_121, p 5 (by decide), q5, if_pos ⟨by decide, by omega, by rw [show kL 123 = 80 by decide]; omega⟩, hput_ne1 (show (123 : Int) ≠ 129 by decide), q123, p 14 (by decide), p 14 (by decide), show f 121 14 = 130 from ms_at S (by decide), j90_eq, if_pos ⟨by decide, by omega, by rw [show kL 130 = 40 by decide]; omega⟩, if_pos v3]
  rw [start]
  generalize hput (hput (hput f 131 n t) 129 n (if kd G n = 1 then 1 else 0)) 130 n (if kd G n = 3 then 1 else 0) = h6 at h6c h6a h6b h6d
  have S6 : MShp h6 := fun q hq => by rw [h6c 121 q.1 (Or.inl (by decide))]; exact S q hq
  -- the children
  have ch : (c1 G n = -1 ∨ (n < c1 G n ∧ c1 G n < ft G (t + 1))) ∧ (c2 G n = -1 ∨ (n < c2 G n ∧ c2 G n < ft G (t + 1))) := by
    by_cases k0 : kd G n = 0
    · have := w8 n (by omega) (by omega) k0
      rw [trn] at this
      exact ⟨Or.inr (by omega), by omega⟩
    · have := w9 n (by omega) (by omega) k0
      exact ⟨Or.inl this.1, Or.inl this.2.1⟩
  have chv : ∀ m, n < m → m < ft G (t + 1) → h6 129 m = nd G m ∧ h6 130 m = sp G m := fun m m0 m1 => by
    rw [h6c 129 m (Or.inr (by omega)), h6c 130 m (Or.inr (by omega))]
    exact (i1 m m0 m1).2
  have ndb : ∀ m, ft G t ≤ m → m < ft G (t + 1) → 0 ≤ nd G m ∧ nd G m ≤ 40 := fun m m0 m1 => by
    have q := (w11 m (by omega) (by omega))
    obtain ⟨t', x, w, _, _, _, _, _, S'⟩ := GOK_at K (n := m) (by omega) (by omega)
    have l4 : nd G m = ltT x := (Hd_loc x m w S'.1).2.2.2.2.1.1
    have lts : ltT x ≤ szT x := by
      have : ∀ d : Dv, ltT d ≤ szT d := fun d => by
        induction d with
        | zero => exact Nat.zero_le _
        | var _ => exact Nat.le_refl 1
        | neg _ _ => exact Nat.zero_le _
        | sub _ _ _ _ => exact Nat.zero_le _
        | natMul _ _ _ => exact Nat.zero_le _
        | intMul _ y ih => exact Nat.le_succ_of_le ih
        | add y z i1 i2 => exact Nat.add_le_add i1 i2
      exact this x
    have := S'.2.1
    have k12 := (K.2.2.2.2 t' (by assumption) (by assumption)).2.2.2.2.2.2
    omega
  obtain ⟨e7, l7, F7, x7, y7⟩ := L93_ok (t := t) (n := n) (a := c1 G n) (b := c2 G n) S6 (by omega) (by omega) (by rw [h6c 126 n (Or.inl (by decide))]; exact r126) (by rw [h6c 127 n (Or.inl (by decide))]; exact r127) (by omega) (by omega) (by rw [h6a]; split <;> decide) (fun m m0 m1 m2 => by
    have mm : n < m ∧ m < ft G (t + 1) := by omega
    rw [(chv m mm.1 mm.2).1]
    exact ndb m (by omega) mm.2)
  rw [l7, ob_some]
  have z129 : e7 129 n = nd G n := by
    rw [x7, h6a]
    have q := w11 n (by omega) (by omega)
    by_cases k0 : kd G n = 0
    · have c := w8 n (by omega) (by omega) k0
      rw [trn] at c
      rw [q.2.2.2.1 k0, if_neg (by omega), if_neg (by omega), (chv (c1 G n) (by omega) (by omega)).1]
      by_cases z : c2 G n = -1
      · rw [if_pos z, if_pos z]; omega
      · rw [if_neg z, if_neg z, (chv (c2 G n) (by omega) (by omega)).1]; omega
    · have c := w9 n (by omega) (by omega) k0
      rw [if_pos c.1, if_pos c.2.1]
      by_cases z : kd G n = 1
      · rw [if_pos z, q.2.1 z]; rfl
      · rw [if_neg z, q.2.2.1 (by omega)]; rfl
  have z130 : e7 130 n = sp G n := by
    rw [y7]
    simp only
    rw [h6b]
    have q := w12 n (by omega) (by omega)
    by_cases k0 : kd G n = 0
    · have c := w8 n (by omega) (by omega) k0
      rw [trn] at c
      have s1 := (w12 (c1 G n) (by omega) (by omega)).1
      have sq := q.2.2.2 k0
      rw [if_neg (show ¬ kd G n = 3 by omega), if_neg (show ¬ c1 G n = -1 by omega), (chv (c1 G n) (by omega) (by omega)).2]
      by_cases z : c2 G n = -1
      · rw [if_pos z] at sq
        rw [if_pos z]
        rcases s1 with s1 | s1
        · rw [if_pos ⟨rfl, s1⟩]; omega
        · rw [if_neg (fun w => by omega)]; omega
      · rw [if_neg z] at sq
        have s2 := (w12 (c2 G n) (by omega) (by omega)).1
        rw [if_neg z, (chv (c2 G n) (by omega) (by omega)).2]
        rcases s1 with s1 | s1
        · rw [if_pos (show (0 : Int) = 0 ∧ sp G (c1 G n) = 0 from ⟨rfl, s1⟩)]
          rcases s2 with s2 | s2
          · rw [if_pos ⟨rfl, s2⟩]; omega
          · rw [if_neg (fun w => by omega)]; omega
        · rw [if_neg (show ¬ ((0 : Int) = 0 ∧ sp G (c1 G n) = 0) from fun w => by omega), if_neg (fun w => absurd w.1 (by decide))]
          have := q.1
          omega
    · have c := w9 n (by omega) (by omega) k0
      rw [if_pos c.1, if_pos c.2.1]
      by_cases z : kd G n = 3
      · rw [if_pos z, q.2.1 z]
      · rw [if_neg z, q.2.2.1 z k0]
  have F76 : ∀ c s, (c ≠ 129 ∧ c ≠ 130 ∧ c ≠ 131) ∨ s ≠ n → e7 c s = f c s := fun c s z => by rw [F7 c s (by omega), h6c c s z]
  have pl := plA_le (G := G) (t := t) (n := n)
  obtain ⟨f', el, Ff, q132, q133, q134⟩ := lyC_ok (G := G) (e := e7) (n := n) (t := t) (fun q hq => by rw [F76 121 q.1 (Or.inl (by decide))]; exact S q hq) (by rw [F76 123 n (Or.inl (by decide))]; exact r123.symm) (by omega) (by omega) t0 (by omega) (by rw [F76 122 t (Or.inl (by decide))]; exact r122) ⟨ft0.1, a⟩ (by rw [F76 134 t (Or.inl (by decide)), i4]; omega)
  refine ⟨f', el, fun m m0 m1 => ?_, ?_, ?_, ?_, fun c s h1 h2 => ?_⟩
  · rw [Ff 131 m (by omega), Ff 129 m (by omega), Ff 130 m (by omega)]
    by_cases z : m = n
    · rw [z]
      refine ⟨?_, z129, z130⟩
      rw [F7 131 n (Or.inl (by decide))]; exact h6d
    · rw [F76 131 m (Or.inr z), F76 129 m (Or.inr z), F76 130 m (Or.inr z)]
      exact i1 m (by omega) m1
  · rw [q132, fkA_s b, F76 132 t (Or.inl (by decide)), i2, if_neg (show ¬ n = -1 by omega)]
  · rw [q133, fkA_s b, F76 133 t (Or.inl (by decide)), i3, if_neg (show ¬ n = -1 by omega)]
  · rw [q134, plA_s b, F76 134 t (Or.inl (by decide)), i4]
    split <;> omega
  · rw [Ff c s h2, F76 c s (by omega)]
    exact i5 c s h1 h2
end
