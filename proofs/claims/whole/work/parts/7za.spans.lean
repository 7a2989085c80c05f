/-! the reference's tables of spans -/
def tri : Nat → Nat
  | 0 => 0
  | n + 1 => tri n + (n + 1)
def rJn (i : Int) : Nat → Nat
  | 0 => 0
  | m + 1 => (1 + tri (8 - m - i + 1).toNat) + rJn i m
def rIn : Nat → Nat
  | 0 => 0
  | m + 1 => rJn (8 - m) (m + 1) + rIn m
theorem rIn_9 : rIn 9 = 540 := by decide
def rPn (i j p : Int) : Nat := if p = -1 then 1 + tri (j - i + 1).toNat else if p < i then tri (j - i + 1).toNat else tri (j - p + 1).toNat
def rQn (i j p q : Int) : Nat := if p = -1 then (if q = -1 then 1 else 0) + tri (j - i + 1).toNat else if p < i then tri (j - i + 1).toNat else (j - q + 1).toNat + tri (j - p).toNat
def VSp (i j p q : Int) : Prop := 0 ≤ i ∧ i ≤ j ∧ j ≤ 8 ∧ ((p = -1 ∧ q = -1) ∨ (i ≤ p ∧ p ≤ q ∧ q ≤ j))
def Bfr (i j p q i' j' p' q' : Int) : Prop := VSp i' j' p' q' ∧ (i' < i ∨ (i' = i ∧ (j' < j ∨ (j' = j ∧ (p' < p ∨ (p' = p ∧ q' < q))))))
def plI (i j p q : Int) : Int := 1000 * i + 100 * j + 10 * p + q + 11
def SpI (f : Hp) (many : Int) (S : Int → Int → Int → Int → Prop) : Prop := (∀ i j p q, S i j p q → VSp i j p q ∧ 0 ≤ f 139 (plI i j p q) ∧ f 139 (plI i j p q) < many ∧ f 140 (f 139 (plI i j p q)) = i ∧ f 141 (f 139 (plI i j p q)) = j ∧ f 142 (f 139 (plI i j p q)) = p ∧ f 143 (f 139 (plI i j p q)) = q) ∧ ∀ s, 0 ≤ s → s < many → S (f 140 s) (f 141 s) (f 142 s) (f 143 s) ∧ f 139 (plI (f 140 s) (f 141 s) (f 142 s) (f 143 s)) = s
theorem SpI_congr {f : Hp} {many : Int} {S S' : Int → Int → Int → Int → Prop} (I : SpI f many S) (e : ∀ i j p q, VSp i j p q → (S' i j p q ↔ S i j p q)) (v : ∀ i j p q, S' i j p q → VSp i j p q) : SpI f many S' := by
  refine ⟨fun i j p q z => ⟨v i j p q z, (I.1 i j p q ((e i j p q (v i j p q z)).mp z)).2⟩, fun s s0 s1 => ?_⟩
  have q := I.2 s s0 s1
  exact ⟨(e _ _ _ _ (I.1 _ _ _ _ q.1).1).mpr q.1, q.2⟩
def SF (f f' : Hp) : Prop := ∀ c s, (c < 139 ∨ 143 < c) → f' c s = f c s
theorem SF.tr {a b c : Hp} (x : SF a b) (y : SF b c) : SF a c := fun i s z => by rw [y i s z, x i s z]
def sp1 (f : Hp) (m i j p q : Int) : Hp := hput (hput (hput (hput (hput f 139 (plI i j p q) m) 140 m i) 141 m j) 142 m p) 143 m q
section
variable {f g : Hp} {m i j p q : Int}
theorem sp1_ok {S : Int → Int → Int → Int → Prop} (I : SpI f m S) (m0 : 0 ≤ m) (v : VSp i j p q) (ns : ¬ S i j p q) : SpI (sp1 f m i j p q) (m + 1) (fun a b c d => S a b c d ∨ (a = i ∧ b = j ∧ c = p ∧ d = q)) := by
  have e139 : ∀ s, s ≠ plI i j p q → (sp1 f m i j p q) 139 s = f 139 s := fun s z => by unfold sp1; rw [hput_ne1 (by decide), hput_ne1 (by decide), hput_ne1 (by decide), hput_ne1 (by decide), hput_ne2 z]
  have n139 : (sp1 f m i j p q) 139 (plI i j p q) = m := by unfold sp1; rw [hput_ne1 (by decide), hput_ne1 (by decide), hput_ne1 (by decide), hput_ne1 (by decide), hput_eq]
  have e140 : ∀ s, s ≠ m → (sp1 f m i j p q) 140 s = f 140 s := fun s z => by unfold sp1; rw [hput_ne1 (by decide), hput_ne1 (by decide), hput_ne1 (by decide), hput_ne2 z, hput_ne1 (by decide)]
  have n140 : (sp1 f m i j p q) 140 m = i := by unfold sp1; rw [hput_ne1 (by decide), hput_ne1 (by decide), hput_ne1 (by decide), hput_eq]
  have e141 : ∀ s, s ≠ m → (sp1 f m i j p q) 141 s = f 141 s := fun s z => by unfold sp1; rw [hput_ne1 (by decide), hput_ne1 (by decide), hput_ne2 z, hput_ne1 (by decide), hput_ne1 (by decide)]
  have n141 : (sp1 f m i j p q) 141 m = j := by unfold sp1; rw [hput_ne1 (by decide), hput_ne1 (by decide), hput_eq]
  have e142 : ∀ s, s ≠ m → (sp1 f m i j p q) 142 s = f 142 s := fun s z => by unfold sp1; rw [hput_ne1 (by decide), hput_ne2 z, hput_ne1 (by decide), hput_ne1 (by decide), hput_ne1 (by decide)]
  have n142 : (sp1 f m i j p q) 142 m = p := by unfold sp1; rw [hput_ne1 (by decide), hput_eq]
  have e143 : ∀ s, s ≠ m → (sp1 f m i j p q) 143 s = f 143 s := fun s z => by unfold sp1; rw [hput_ne2 z, hput_ne1 (by decide), hput_ne1 (by decide), hput_ne1 (by decide), hput_ne1 (by decide)]
  have n143 : (sp1 f m i j p q) 143 m = q := by unfold sp1; rw [hput_eq]
  have inj : ∀ a b c d, VSp a b c d → plI a b c d = plI i j p q → a = i ∧ b = j ∧ c = p ∧ d = q := fun a b c d w z => by
    unfold plI at z
    unfold VSp at w v
    have w1 : 0 ≤ a ∧ a ≤ 8 ∧ 0 ≤ b ∧ b ≤ 8 ∧ -1 ≤ c ∧ c ≤ 8 ∧ -1 ≤ d ∧ d ≤ 8 := by omega
    have v1 : 0 ≤ i ∧ i ≤ 8 ∧ 0 ≤ j ∧ j ≤ 8 ∧ -1 ≤ p ∧ p ≤ 8 ∧ -1 ≤ q ∧ q ≤ 8 := by omega
    clear w v e139 n139 e140 n140 e141 n141 e142 n142 e143 n143
    have h1 : a = i := by omega
    have h2 : b = j := by omega
    have h3 : c = p := by omega
    exact ⟨h1, h2, h3, by omega⟩
  refine ⟨fun a b c d z => ?_, fun s s0 s1 => ?_⟩
  · rcases z with z | ⟨rfl, rfl, rfl, rfl⟩
    · obtain ⟨w, q0, q1, q2, q3, q4, q5⟩ := I.1 a b c d z
      have ne : plI a b c d ≠ plI i j p q := fun y => by
        obtain ⟨rfl, rfl, rfl, rfl⟩ := inj a b c d w y
        exact ns z
      rw [e139 _ ne, e140 _ (by omega), e141 _ (by omega), e142 _ (by omega), e143 _ (by omega)]
      exact ⟨w, q0, by omega, q2, q3, q4, q5⟩
    · rw [n139, n140, n141, n142, n143]
      exact ⟨v, m0, by omega, rfl, rfl, rfl, rfl⟩
  · by_cases hs : s = m
    · subst hs
      rw [n140, n141, n142, n143, n139]
      exact ⟨Or.inr ⟨rfl, rfl, rfl, rfl⟩, rfl⟩
    · obtain ⟨z, y⟩ := I.2 s s0 (by omega)
      rw [e140 s hs, e141 s hs, e142 s hs, e143 s hs]
      have w := (I.1 _ _ _ _ z).1
      have ne : plI (f 140 s) (f 141 s) (f 142 s) (f 143 s) ≠ plI i j p q := fun x => by
        obtain ⟨h1, h2, h3, h4⟩ := inj _ _ _ _ w x
        rw [h1, h2, h3, h4] at z
        exact ns z
      rw [e139 _ ne]
      exact ⟨Or.inl z, y⟩
theorem j372_ok (S : MShp f) (v : VSp i j p q) (m0 : 0 ≤ m) (m1 : m < 540) : M_new_j372 121 m i j p q f = some (.inl (m + 1, q + 1, sp1 f m i j p q)) := by
  have s36 : f 121 36 = 139 := ms_at S (by decide)
  have s37 : f 121 37 = 140 := ms_at S (by decide)
  have s38 : f 121 38 = 141 := ms_at S (by decide)
  have s39 : f 121 39 = 142 := ms_at S (by decide)
  have s40 : f 121 40 = 143 := ms_at S (by decide)
  have pl : M_place i j p q = some (plI i j p q) := by
    unfold VSp at v
    unfold M_place plI
    congr 1
    unfold w32
    omega
  have plb : 0 ≤ plI i j p q ∧ plI i j p q < 10000 := by unfold VSp at v; unfold plI; omega
  have P : ∀ {h : Hp} {c s w : Int} (k : Int), c ≠ 121 → (hput h c s w) 121 k = h 121 k := fun k hc => hput_ne1 (fun z => hc z.symm)
  unfold M_new_j372 M_new_j420
  rw [if_pos kK_121, pl, ob_some, s36, if_pos ⟨by decide, plb.1, by rw [show kL 139 = 10000 by decide]; omega⟩]
  simp only
  rw [P 37 (by decide), s37, if_pos ⟨by decide, m0, by rw [show kL 140 = 540 by decide]; omega⟩, P 38 (by decide), P 38 (by decide), s38, if_pos ⟨by decide, m0, by rw [show kL 141 = 540 by decide]; omega⟩, P 39 (by decide), P 39 (by decide), P 39 (by decide), s39, if_pos ⟨by decide, m0, by rw [show kL 142 = 540 by decide]; omega⟩, P 40 (by decide), P 40 (by decide), P 40 (by decide), P 40 (by decide), s40, if_pos ⟨by decide, m0, by rw [show kL 143 = 540 by decide]; omega⟩, show w32 (m + 1) = m + 1 by unfold w32; omega, show w32 (q + 1) = q + 1 by unfold VSp at v; unfold w32; omega]
  rfl
theorem sp1_fr : SF f (sp1 f m i j p q) := fun c s z => by
  unfold sp1
  rw [hput_ne1 (by omega), hput_ne1 (by omega), hput_ne1 (by omega), hput_ne1 (by omega), hput_ne1 (by omega)]
theorem MShp_sf (S : MShp f) (F : SF f g) : MShp g := fun q hq => by rw [F 121 q.1 (by omega)]; exact S q hq
/-- a state of the walk: so many, these tuples, so many to come -/
def WkI (f0 f : Hp) (m r : Int) (i j p q : Int) : Prop := SF f0 f ∧ SpI f m (Bfr i j p q) ∧ 0 ≤ m ∧ 0 ≤ r ∧ m + r = 540
theorem WkI_c {f0 : Hp} {r i' j' p' q' : Int} (W : WkI f0 f m r i j p q) (e : ∀ a b c d, VSp a b c d → (Bfr i' j' p' q' a b c d ↔ Bfr i j p q a b c d)) : WkI f0 f m r i' j' p' q' := ⟨W.1, SpI_congr W.2.1 e (fun _ _ _ _ z => z.1), W.2.2⟩
theorem WkI_add {f0 : Hp} {r : Int} (S0 : MShp f0) (W : WkI f0 f m (r + 1) i j p q) (r0 : 0 ≤ r) (v : VSp i j p q) : M_new_j372 121 m i j p q f = some (.inl (m + 1, q + 1, sp1 f m i j p q)) ∧ WkI f0 (sp1 f m i j p q) (m + 1) r i j p (q + 1) := by
  obtain ⟨F, I, m0, r1, e⟩ := W
  refine ⟨j372_ok (MShp_sf S0 F) v m0 (by omega), F.tr sp1_fr, SpI_congr (sp1_ok I m0 v ?_) (fun a b c d w => ?_) (fun _ _ _ _ z => z.1), by omega, r0, by omega⟩
  · unfold Bfr
    omega
  · unfold Bfr
    unfold VSp at w v ⊢
    omega
theorem L341_ok {f0 : Hp} {m0 rest : Int} (S0 : MShp f0) (i0 : 0 ≤ i) (ij : i ≤ j) (j8 : j ≤ 8) (p0 : -1 ≤ p) (pj : p ≤ j) (rs : 0 ≤ rest) (W : WkI f0 f m0 (rPn i j p + rest) i j p (-1)) : ∃ m' f', loopN (fun s => M_new_L341 121 i j p s.1 s.2.1 s.2.2) LN (m0, (if p = -1 then -1 else p), f) = some (m', f') ∧ WkI f0 f' m' (rPn i j (p + 1) + rest) i j (p + 1) (-1) := by
  have W0 : WkI f0 f m0 (rQn i j p (if p = -1 then -1 else p) + rest) i j p (if p = -1 then -1 else p) := by
    have er : rQn i j p (if p = -1 then -1 else p) = rPn i j p := by
      unfold rQn rPn
      by_cases z : p = -1
      · rw [if_pos z, if_pos z, if_pos z, if_pos rfl]
      · rw [if_neg z, if_neg z, if_neg z]
        by_cases y : p < i
        · rw [if_pos y, if_pos y]
        · rw [if_neg y, if_neg y]
          obtain ⟨k, hk⟩ : ∃ k : Nat, (j - p + 1).toNat = k + 1 := ⟨(j - p).toNat, by omega⟩
          rw [hk, show (j - p).toNat = k by omega]
          show k + 1 + tri k = tri k + (k + 1)
          omega
    rw [er]
    refine WkI_c W (fun a b c d w => ?_)
    unfold Bfr
    unfold VSp at w ⊢
    by_cases z : p = -1
    · rw [if_pos z]
    · rw [if_neg z]; omega
  obtain ⟨⟨m', f'⟩, e, pr⟩ := loop_ok (body := fun s : Int × Int × Hp => M_new_L341 121 i j p s.1 s.2.1 s.2.2) (fun s => ((if p = -1 then -1 else p) ≤ s.2.1 ∧ s.2.1 ≤ (if p = -1 then -1 else j) + 1) ∧ WkI f0 s.2.2 s.1 (rQn i j p s.2.1 + rest) i j p s.2.1) (fun s => ((if p = -1 then -1 else j) + 1 - s.2.1).toNat) (fun r : Int × Hp => WkI f0 r.2 r.1 (rPn i j (p + 1) + rest) i j (p + 1) (-1)) (by
    rintro ⟨m, q, f⟩ ⟨⟨q0, q1⟩, W⟩
    simp only at q0 q1 W
    simp only
    unfold M_new_L341 M_new_j354 M_new_j420
    by_cases hq : (if p = -1 then -1 else j) < q
    · right
      rw [if_pos hq]
      refine ⟨_, rfl, ?_⟩
      simp only
      have er : rQn i j p q = rPn i j (p + 1) := by
        unfold rQn rPn
        by_cases z : p = -1
        · rw [if_pos z] at hq q1
          rw [if_pos z, if_neg (show ¬ q = -1 by omega), if_neg (show ¬ p + 1 = -1 by omega), z]
          by_cases y : (-1 : Int) + 1 < i
          · rw [if_pos y]; omega
          · rw [if_neg y, show (j - (-1 + 1) + 1).toNat = (j - i + 1).toNat by omega]; omega
        · rw [if_neg z] at hq q1
          rw [if_neg z, if_neg (show ¬ p + 1 = -1 by omega)]
          by_cases y : p < i
          · rw [if_pos y]
            by_cases x : p + 1 < i
            · rw [if_pos x]
            · rw [if_neg x, show (j - (p + 1) + 1).toNat = (j - i + 1).toNat by omega]
          · rw [if_neg y, if_neg (by omega), show (j - (p + 1) + 1).toNat = (j - p).toNat by omega, show (j - q + 1).toNat = 0 by omega]
            omega
      rw [← er]
      refine WkI_c W (fun a b c d w => ?_)
      unfold Bfr
      unfold VSp at w ⊢
      by_cases z : p = -1
      · rw [if_pos z] at hq; omega
      · rw [if_neg z] at hq; omega
    · left
      rw [if_neg hq]
      by_cases z : p = -1
      · rw [if_pos z] at hq q0 q1
        have hq' : q = -1 := by omega
        rw [if_pos z]
        have er : ((rQn i j p q : Nat) : Int) = (rQn i j p (q + 1) : Int) + 1 := by
          unfold rQn
          rw [if_pos z, if_pos z, if_pos hq', if_neg (by omega)]
          omega
        obtain ⟨e, W'⟩ := WkI_add S0 (r := rQn i j p (q + 1) + rest) (by rw [show (rQn i j p (q + 1) : Int) + rest + 1 = rQn i j p q + rest by omega]; exact W) (by omega) (by unfold VSp; omega)
        rw [e]
        refine ⟨_, rfl, ⟨?_, W'⟩, ?_⟩
        · simp only; rw [if_pos z, if_pos z]; omega
        · simp only; rw [if_pos z]; omega
      · rw [if_neg z] at hq q1
        rw [if_neg z] at q0
        rw [if_neg z]
        by_cases y : i ≤ p
        · rw [if_pos y]
          have er : ((rQn i j p q : Nat) : Int) = (rQn i j p (q + 1) : Int) + 1 := by
            unfold rQn
            rw [if_neg z, if_neg z, if_neg (by omega), if_neg (by omega)]
            omega
          obtain ⟨e, W'⟩ := WkI_add S0 (r := rQn i j p (q + 1) + rest) (by rw [show (rQn i j p (q + 1) : Int) + rest + 1 = rQn i j p q + rest by omega]; exact W) (by omega) (by unfold VSp; omega)
          rw [e]
          refine ⟨_, rfl, ⟨?_, W'⟩, ?_⟩
          · simp only; rw [if_neg z, if_neg z]; omega
          · simp only; rw [if_neg z]; omega
        · rw [if_neg y, show w32 (q + 1) = q + 1 by unfold w32; omega]
          refine ⟨_, rfl, ⟨?_, ?_⟩, ?_⟩
          · simp only; rw [if_neg z, if_neg z]; omega
          · simp only
            have er : rQn i j p (q + 1) = rQn i j p q := by
              unfold rQn
              rw [if_neg z, if_neg z, if_pos (by omega), if_pos (by omega)]
            rw [er]
            refine WkI_c W (fun a b c d w => ?_)
            unfold Bfr
            unfold VSp at w ⊢
            omega
          · simp only; rw [if_neg z]; omega) LN (m0, (if p = -1 then -1 else p), f) ⟨⟨Int.le_refl _, by
            simp only
            by_cases z : p = -1
            · rw [if_pos z, if_pos z]; omega
            · rw [if_neg z, if_neg z]; omega⟩, W0⟩ (by
            unfold LN
            simp only
            by_cases z : p = -1
            · rw [if_pos z, if_pos z]; omega
            · rw [if_neg z, if_neg z]; omega)
  exact ⟨m', f', e, pr⟩
theorem L321_ok {f0 : Hp} {m0 rest : Int} (S0 : MShp f0) (i0 : 0 ≤ i) (ij : i ≤ j) (j8 : j ≤ 8) (rs : 0 ≤ rest) (W : WkI f0 f m0 ((1 + tri (j - i + 1).toNat : Nat) + rest) i j (-1) (-1)) : ∃ m' f', loopN (fun s => M_new_L321 121 i j s.1 s.2.1 s.2.2) LN (m0, -1, f) = some (m', f') ∧ WkI f0 f' m' rest i (j + 1) (-1) (-1) := by
  obtain ⟨⟨m', f'⟩, e, pr⟩ := loop_ok (body := fun s : Int × Int × Hp => M_new_L321 121 i j s.1 s.2.1 s.2.2) (fun s => (-1 ≤ s.2.1 ∧ s.2.1 ≤ j + 1) ∧ WkI f0 s.2.2 s.1 (rPn i j s.2.1 + rest) i j s.2.1 (-1)) (fun s => (j + 1 - s.2.1).toNat) (fun r : Int × Hp => WkI f0 r.2 r.1 rest i (j + 1) (-1) (-1)) (by
    rintro ⟨m, p, f⟩ ⟨⟨q0, q1⟩, W⟩
    simp only at q0 q1 W
    simp only
    unfold M_new_L321 M_new_j339
    by_cases hp : j < p
    · right
      have : p = j + 1 := by omega
      subst this
      rw [if_pos hp]
      refine ⟨_, rfl, ?_⟩
      simp only
      have er : rPn i j (j + 1) = 0 := by
        unfold rPn
        rw [if_neg (by omega), if_neg (by omega), show (j - (j + 1) + 1).toNat = 0 by omega]
        rfl
      rw [er] at W
      rw [show ((0 : Nat) : Int) + rest = rest by omega] at W
      refine WkI_c W (fun a b c d w => ?_)
      unfold Bfr
      unfold VSp at w ⊢
      omega
    · left
      obtain ⟨m', f', e, W'⟩ := L341_ok S0 i0 ij j8 q0 (by omega) rs W
      rw [if_neg hp, e, ob_some]
      refine ⟨(m', p + 1, f'), by simp only; rw [show w32 (p + 1) = p + 1 by unfold w32; omega], ⟨⟨by simp only; omega, by simp only; omega⟩, W'⟩, by simp only; omega⟩) LN (m0, -1, f) ⟨⟨Int.le_refl _, by simp only; omega⟩, by
      simp only
      have er : rPn i j (-1) = 1 + tri (j - i + 1).toNat := by unfold rPn; rw [if_pos rfl]
      rw [er]
      exact W⟩ (by unfold LN; simp only; omega)
  exact ⟨m', f', e, pr⟩
theorem L312_ok {f0 : Hp} {m0 rest : Int} (S0 : MShp f0) (i0 : 0 ≤ i) (i8 : i ≤ 8) (rs : 0 ≤ rest) (W : WkI f0 f m0 (rJn i (9 - i).toNat + rest) i i (-1) (-1)) : ∃ m' f', loopN (fun s => M_new_L312 121 i s.1 s.2.1 s.2.2) LN (m0, i, f) = some (m', f') ∧ WkI f0 f' m' rest (i + 1) (i + 1) (-1) (-1) := by
  obtain ⟨⟨m', f'⟩, e, pr⟩ := loop_ok (body := fun s : Int × Int × Hp => M_new_L312 121 i s.1 s.2.1 s.2.2) (fun s => (i ≤ s.2.1 ∧ s.2.1 ≤ 9) ∧ WkI f0 s.2.2 s.1 (rJn i (9 - s.2.1).toNat + rest) i s.2.1 (-1) (-1)) (fun s => (9 - s.2.1).toNat) (fun r : Int × Hp => WkI f0 r.2 r.1 rest (i + 1) (i + 1) (-1) (-1)) (by
    rintro ⟨m, j, f⟩ ⟨⟨q0, q1⟩, W⟩
    simp only at q0 q1 W
    simp only
    unfold M_new_L312
    by_cases hj : 8 < j
    · right
      have : j = 9 := by omega
      subst this
      rw [if_pos hj]
      refine ⟨_, rfl, ?_⟩
      simp only
      rw [show (9 - (9 : Int)).toNat = 0 by decide, show ((rJn i 0 : Nat) : Int) + rest = rest by show ((0 : Nat) : Int) + rest = rest; omega] at W
      refine WkI_c W (fun a b c d w => ?_)
      unfold Bfr
      unfold VSp at w ⊢
      omega
    · left
      obtain ⟨k, hk⟩ : ∃ k : Nat, (9 - j).toNat = k + 1 := ⟨(8 - j).toNat, by omega⟩
      rw [hk] at W
      have er : ((rJn i (k + 1) : Nat) : Int) + rest = ((1 + tri (j - i + 1).toNat : Nat) : Int) + (rJn i k + rest) := by
        show (((1 + tri (8 - (k : Int) - i + 1).toNat) + rJn i k : Nat) : Int) + rest = _
        rw [show 8 - (k : Int) = j by omega]
        omega
      rw [er] at W
      obtain ⟨m', f', e, W'⟩ := L321_ok S0 i0 q0 (by omega) (by omega) W
      rw [if_neg hj, e, ob_some]
      refine ⟨(m', j + 1, f'), by simp only; rw [show w32 (j + 1) = j + 1 by unfold w32; omega], ⟨⟨by simp only; omega, by simp only; omega⟩, ?_⟩, by simp only; omega⟩
      simp only
      rw [show (9 - (j + 1)).toNat = k by omega]
      exact W') LN (m0, i, f) ⟨⟨Int.le_refl _, by simp only; omega⟩, W⟩ (by unfold LN; simp only; omega)
  exact ⟨m', f', e, pr⟩
theorem spans_ok {f0 : Hp} (S0 : MShp f0) : ∃ f', loopN (fun s => M_new_L304 121 s.1 s.2.1 s.2.2) LN (0, 0, f0) = some f' ∧ SF f0 f' ∧ SpM f' := by
  have I0 : WkI f0 f0 0 (rIn (9 - (0 : Int)).toNat) 0 0 (-1) (-1) := by
    refine ⟨fun _ _ _ => rfl, ⟨fun i j p q z => ?_, fun s s0 s1 => by omega⟩, Int.le_refl _, by omega, ?_⟩
    · unfold Bfr VSp at z
      omega
    · rw [show (9 - (0 : Int)).toNat = 9 by decide, rIn_9]
      rfl
  obtain ⟨f', e, p1, p2⟩ := loop_ok (body := fun s : Int × Int × Hp => M_new_L304 121 s.1 s.2.1 s.2.2) (fun s => (0 ≤ s.2.1 ∧ s.2.1 ≤ 9) ∧ WkI f0 s.2.2 s.1 (rIn (9 - s.2.1).toNat) s.2.1 s.2.1 (-1) (-1)) (fun s => (9 - s.2.1).toNat) (fun r : Hp => SF f0 r ∧ SpI r 540 VSp) (by
    rintro ⟨m, i, f⟩ ⟨⟨q0, q1⟩, W⟩
    simp only at q0 q1 W
    simp only
    unfold M_new_L304
    by_cases hi : 8 < i
    · right
      have : i = 9 := by omega
      subst this
      rw [if_pos hi]
      refine ⟨_, rfl, W.1, ?_⟩
      have e := W.2.2.2.2
      rw [show (9 - (9 : Int)).toNat = 0 by decide, show ((rIn 0 : Nat) : Int) = 0 from rfl] at e
      rw [show m = 540 by omega] at W
      refine SpI_congr W.2.1 (fun a b c d w => ?_) (fun _ _ _ _ z => z)
      unfold Bfr
      unfold VSp at w ⊢
      omega
    · left
      obtain ⟨k, hk⟩ : ∃ k : Nat, (9 - i).toNat = k + 1 := ⟨(8 - i).toNat, by omega⟩
      rw [hk] at W
      have er : ((rIn (k + 1) : Nat) : Int) = (rJn i (9 - i).toNat : Int) + rIn k := by
        show ((rJn (8 - (k : Int)) (k + 1) + rIn k : Nat) : Int) = _
        rw [show 8 - (k : Int) = i by omega, hk]
        omega
      rw [er] at W
      obtain ⟨m', f', e, W'⟩ := L312_ok S0 q0 (by omega) (by omega) W
      rw [if_neg hi, e, ob_some]
      refine ⟨(m', i + 1, f'), by simp only; rw [show w32 (i + 1) = i + 1 by unfold w32; omega], ⟨⟨by simp only; omega, by simp only; omega⟩, ?_⟩, by simp only; omega⟩
      simp only
      rw [show (9 - (i + 1)).toNat = k by omega]
      exact W') LN (0, 0, f0) ⟨⟨Int.le_refl _, by simp only; omega⟩, I0⟩ (by unfold LN; simp only; omega)
  refine ⟨f', e, p1, fun i j p q i0 ij j8 pq => ?_, fun s s0 s1 => ?_⟩
  · obtain ⟨-, r⟩ := p2.1 i j p q ⟨i0, ij, j8, pq⟩
    exact r
  · obtain ⟨z, y⟩ := p2.2 s s0 s1
    unfold VSp at z
    exact ⟨z.1, z.2.1, z.2.2.1, z.2.2.2, y⟩
end
