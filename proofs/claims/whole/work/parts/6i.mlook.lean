/-! answers, as numbers; the reference between calls, and its look at the sentence -/
def stN (G : Gm) (ou : Int → Bool) (row : Int → Int) (m : Int) : Nat := if nT G = 0 then 0 else wHosts G ou (wW G ou row) (lb G 0) 0 m
def shw (x : Int) : Int := if x ≤ 1000000000000000 then x else -3
def orF (f : Int → Bool) : Nat → Int
  | 0 => 0
  | k + 1 => if f k then i_or (orF f k) (i_shl 1 k) else orF f k
theorem orF_in (f : Int → Bool) : ∀ k : Nat, k < 31 → 0 ≤ orF f k ∧ orF f k < ((2 ^ k : Nat) : Int)
  | 0, _ => ⟨Int.le_refl _, by show (0 : Int) < ((2 ^ 0 : Nat) : Int); decide⟩
  | k + 1, hk => by
    have ih := orF_in f k (by omega)
    have h2 : ((2 ^ (k + 1) : Nat) : Int) = 2 * ((2 ^ k : Nat) : Int) := by rw [Nat.pow_succ]; omega
    show 0 ≤ (if f k then _ else _) ∧ (if f k then _ else _) < _
    split
    · have := or1_in (x := orF f k) (t := k) (n := ((k + 1 : Nat) : Int)) ih.1 (by omega) (by omega) (by rw [Int.toNat_natCast]; omega) (by omega) (by omega)
      rwa [Int.toNat_natCast] at this
    · omega
theorem orF_congr {f g : Int → Bool} : ∀ k : Nat, (∀ x : Int, 0 ≤ x → x < k → f x = g x) → orF f k = orF g k
  | 0, _ => rfl
  | k + 1, h => by
    show (if f k then _ else _) = (if g k then _ else _)
    rw [h k (by omega) (by omega), orF_congr k (fun x a b => h x a (by omega))]
theorem i_or_0 {x : Int} (h0 : 0 ≤ x) (h1 : x < 2147483648) : i_or x 0 = x := by
  rw [i_or_n h0 h1 (by decide) (by decide)]
  simp only [Int.toNat_zero, Nat.or_zero]
  omega
/-! numbers without a bound -/
def agZ (lt : Int → Int) : Ag := fun k x y => if k = 0 then x + y else if k = 1 then x * y else if k = 2 then y else if k = 3 then (if lt x = y then 1 else 0) else 1
theorem agZ_law (lt : Int → Int) : AgL (agZ lt) (fun x => 0 ≤ x) := by
  refine ⟨by decide, by show (0 : Int) ≤ 1; decide, ?_, ?_, ?_, ?_, ?_, ?_, ?_, ?_⟩
  · intro i l _ _ _ _
    show (0 : Int) ≤ if lt i = l then 1 else 0
    split <;> decide
  · intro x y hx hy
    exact ⟨show 0 ≤ x + y from Int.add_nonneg hx hy, show 0 ≤ x * y from Int.mul_nonneg hx hy⟩
  · intro t x _ _ hx; exact hx
  · intro x y _ _; exact Int.add_comm x y
  · intro x y z _ _ _; exact Int.add_assoc x y z
  · intro x _; exact Int.add_zero x
  · intro x _; exact ⟨Int.mul_zero x, Int.zero_mul x⟩
  · intro t _ _; rfl
theorem wW_row {G : Gm} {ou : Int → Bool} {row row' : Int → Int} {n : Int} (W : WF G) (hr : ∀ i, 0 ≤ i → i < n → row' i = row i) {half node i j p q : Int} (h : itm G half node i j p q) (hj : j ≤ n) : wW G ou row' half node i j p q = wW G ou row half node i j p q := by
  have Q := aFix_AEq (ou := ou) W (agZ_law row) n
  have key : ∀ rw' : Int → Int, (∀ i, 0 ≤ i → i < n → rw' i = row i) → aFix G ou (agZ row) half node i j p q = (wW G ou rw' half node i j p q : Int) := by
    intro rw' hr'
    refine hom_item (ou' := ou) (R := fun x n => x = (n : Int)) W (hom (ou' := ou) (R := fun x n => x = (n : Int)) W (agZ_law row) Q (fun t _ _ h => h) rfl rfl ?_ ?_ ?_ ?_) h hj
    · intro i l i0 i1 _ _
      show (if row i = l then (1 : Int) else 0) = _
      rw [hr' i i0 i1]
      split <;> rfl
    · intro x y m n _ _ hx hy
      subst hx hy
      show (m : Int) + n = ((m + n : Nat) : Int)
      omega
    · intro x y m n _ _ hx hy
      subst hx hy
      exact (Int.natCast_mul m n).symm
    · intro t x n t0 t1 ho _ hx
      rw [ho]; exact hx
  have a := key row' hr
  have b := key row (fun _ _ _ => rfl)
  omega
theorem stN_row {G : Gm} {ou : Int → Bool} {row row' : Int → Int} {n m : Int} (W : WF G) (hr : ∀ i, 0 ≤ i → i < n → row' i = row i) (m0 : 0 ≤ m) (hm : m ≤ n) (n8 : n ≤ 8) : stN G ou row' m = stN G ou row m := by
  unfold stN
  split
  · rfl
  · unfold wHosts
    apply sI_congr
    intro t t0 t1
    split
    · rename_i hg
      have r := root_in W t0 (show t < nT G by omega)
      exact wW_row W hr ⟨Or.inr rfl, r.1, r.2.1, by omega, by omega, by omega, Or.inr ⟨(goB_spec hg).1, rfl, rfl⟩⟩ hm
    · rfl
/-! the reference -/
/-- the first node of a kind from lo on, among m -/
def fsA (G : Gm) (k lo : Int) : Nat → Int
  | 0 => -1
  | m + 1 => if kd G lo = k then lo else fsA G k (lo + 1) m
def fstK (G : Gm) (t k : Int) : Int := if fsA G k (ft G t) (ft G (t + 1) - ft G t).toNat = -1 then -1 else fsA G k (ft G t) (ft G (t + 1) - ft G t).toNat - ft G t
def plc (G : Gm) (t : Int) : Nat := sI (fun n => if kd G n = 4 then 1 else 0) (ft G t) (ft G (t + 1) - 1)
def spT (s : Int) (h : Hp) : Prop := 0 ≤ h 140 s ∧ h 140 s ≤ h 141 s ∧ h 141 s ≤ 8 ∧ ((h 142 s = -1 ∧ h 143 s = -1) ∨ (h 140 s ≤ h 142 s ∧ h 142 s ≤ h 143 s ∧ h 143 s ≤ h 141 s)) ∧ h 139 (1000 * h 140 s + 100 * h 141 s + 10 * h 142 s + h 143 s + 11) = s
/-- the tables of spans -/
def SpM (h : Hp) : Prop :=
  (∀ i j p q, 0 ≤ i → i ≤ j → j ≤ 8 → ((p = -1 ∧ q = -1) ∨ (i ≤ p ∧ p ≤ q ∧ q ≤ j)) → 0 ≤ h 139 (1000 * i + 100 * j + 10 * p + q + 11) ∧ h 139 (1000 * i + 100 * j + 10 * p + q + 11) < 540 ∧ h 140 (h 139 (1000 * i + 100 * j + 10 * p + q + 11)) = i ∧ h 141 (h 139 (1000 * i + 100 * j + 10 * p + q + 11)) = j ∧ h 142 (h 139 (1000 * i + 100 * j + 10 * p + q + 11)) = p ∧ h 143 (h 139 (1000 * i + 100 * j + 10 * p + q + 11)) = q) ∧
  (∀ s, 0 ≤ s → s < 540 → spT s h)
def GM (h : Hp) (G : Gm) (ob : Int) : Prop :=
  h 121 1 = nT G ∧ h 121 2 = nN G ∧ h 121 3 = ob ∧ (∀ t, 0 ≤ t → t ≤ nT G → h 122 t = ft G t) ∧
  (∀ n, 0 ≤ n → n < nN G → h 123 n = kd G n ∧ h 124 n = lb G n ∧ h 125 n = mk G n ∧ h 126 n = c1 G n ∧ h 127 n = c2 G n ∧ h 128 n = up G n ∧ h 129 n = nd G n ∧ h 130 n = sp G n ∧ h 131 n = tr G n) ∧
  (∀ t, 0 ≤ t → t < nT G → h 132 t = fstK G t 3 ∧ (h 132 t = -1 ↔ sp G (ft G t) = 0) ∧ h 133 t = fstK G t 1 ∧ h 134 t = plc G t)
def LetM (h : Hp) (n : Int) (row : Int → Int) : Prop := h 121 32 = n ∧ 0 ≤ n ∧ n ≤ 8 ∧ ∀ i, 0 ≤ i → i < n → h 137 i = row i ∧ 0 ≤ row i ∧ row i < 26
def BM (h : Hp) (G : Gm) (ob n : Int) (row : Int → Int) : Prop := MShp h ∧ SpM h ∧ GM h G ob ∧ GIn G ∧ (0 ≤ ob ∧ ob < 256) ∧ LetM h n row
section
variable {h h' : Hp} {G : Gm} {ob n : Int} {row : Int → Int}
theorem M_forgets_ok (S : MShp h) : ∃ h', M_forgets 121 h = some h' ∧ (∀ c s, c ≠ 144 → c ≠ 145 → c ≠ 146 → c ≠ 147 → h' c s = h c s) ∧ ∀ s, 0 ≤ s → s < 43200 → h' 144 s = -9 ∧ h' 145 s = -9 ∧ h' 146 s = -9 ∧ h' 147 s = 0 := by
  have k44 : kK 144 = 22 := by decide
  have k45 : kK 145 = 21 := by decide
  have k46 : kK 146 = 21 := by decide
  have k47 : kK 147 = 23 := by decide
  have l44 : kL 144 = 43200 := by decide
  have l45 : kL 145 = 43200 := by decide
  have l46 : kL 146 = 43200 := by decide
  have l47 : kL 147 = 43200 := by decide
  have k11 : kK 121 = 11 := by decide
  have s41 : h 121 41 = 144 := ms_at S (by decide)
  have s42 : h 121 42 = 145 := ms_at S (by decide)
  have s43 : h 121 43 = 146 := ms_at S (by decide)
  have s44 : h 121 44 = 147 := ms_at S (by decide)
  obtain ⟨g, e, gF, gZ⟩ := loop_ok (body := fun q => M_forgets_L2 121 q.1 q.2) (fun s => 0 ≤ s.1 ∧ s.1 ≤ 43200 ∧ (∀ c k, c ≠ 144 → c ≠ 145 → c ≠ 146 → c ≠ 147 → s.2 c k = h c k) ∧ ∀ k, 0 ≤ k → k < s.1 → s.2 144 k = -9 ∧ s.2 145 k = -9 ∧ s.2 146 k = -9 ∧ s.2 147 k = 0) (fun s => (43200 - s.1).toNat) (fun g => (∀ c s, c ≠ 144 → c ≠ 145 → c ≠ 146 → c ≠ 147 → g c s = h c s) ∧ ∀ s, 0 ≤ s → s < 43200 → g 144 s = -9 ∧ g 145 s = -9 ∧ g 146 s = -9 ∧ g 147 s = 0) (by
    rintro ⟨k, g⟩ ⟨k0, k1, hF, hZ⟩
    simp only at k0 k1 hF hZ
    simp only
    unfold M_forgets_L2
    by_cases hk : 43200 ≤ k
    · right
      exact ⟨g, by rw [if_pos hk], hF, fun s a b => hZ s a (by omega)⟩
    · left
      have e1 : ∀ s, g 121 s = h 121 s := fun s => hF 121 s (by decide) (by decide) (by decide) (by decide)
      refine ⟨(k + 1, hput (hput (hput (hput g 144 k (-9)) 145 k (-9)) 146 k (-9)) 147 k 0), ?_, ⟨by simp only; omega, by simp only; omega, ?_, ?_⟩, by simp only; omega⟩
      · rw [if_neg hk, if_pos k11, e1, s41, if_pos ⟨k44, k0, by rw [l44]; omega⟩]
        simp only
        rw [hput_ne1 (by decide), e1, s42, if_pos ⟨k45, k0, by rw [l45]; omega⟩, hput_ne1 (by decide), hput_ne1 (by decide), e1, s43, if_pos ⟨k46, k0, by rw [l46]; omega⟩, hput_ne1 (by decide), hput_ne1 (by decide), hput_ne1 (by decide), e1, s44, if_pos ⟨k47, k0, by rw [l47]; omega⟩, show w32 (k + 1) = k + 1 by unfold w32; omega]
      · intro c s a b x y
        simp only
        rw [hput_ne1 y, hput_ne1 x, hput_ne1 b, hput_ne1 a]
        exact hF c s a b x y
      · intro s s0 s1
        simp only at s1 ⊢
        by_cases hs : s = k
        · subst hs
          refine ⟨?_, ?_, ?_, ?_⟩
          · rw [hput_ne1 (by decide), hput_ne1 (by decide), hput_ne1 (by decide), hput_eq]
          · rw [hput_ne1 (by decide), hput_ne1 (by decide), hput_eq]
          · rw [hput_ne1 (by decide), hput_eq]
          · rw [hput_eq]
        · have := hZ s s0 (by omega)
          refine ⟨?_, ?_, ?_, ?_⟩ <;> rw [hput_ne2 hs, hput_ne2 hs, hput_ne2 hs, hput_ne2 hs]
          · exact this.1
          · exact this.2.1
          · exact this.2.2.1
          · exact this.2.2.2) LN (0, h) ⟨Int.le_refl _, by simp only; omega, fun _ _ _ _ _ _ => rfl, fun k a b => by simp only at b; omega⟩ (by unfold LN; simp only; omega)
  exact ⟨g, by unfold M_forgets; rw [e, ob_some], gF, gZ⟩
/-- what the search for ways may change -/
def Lk (h h' : Hp) : Prop := ∀ c s, (c ≠ 121 ∨ (s ≠ 34 ∧ s ≠ 35)) → c ≠ 138 → c ≠ 144 → c ≠ 145 → c ≠ 146 → c ≠ 147 → h' c s = h c s
theorem Lk.rf : Lk h h := fun _ _ _ _ _ _ _ _ => rfl
theorem Lk.tr {h'' : Hp} (a : Lk h h') (b : Lk h' h'') : Lk h h'' := fun c s h1 h2 h3 h4 h5 h6 => by rw [b c s h1 h2 h3 h4 h5 h6, a c s h1 h2 h3 h4 h5 h6]
theorem Lk.of144 (D : D144 h h') : Lk h h' := fun c s _ _ h3 _ _ _ => D c s h3
theorem BM_lk (B : BM h G ob n row) (F : Lk h h') : BM h' G ob n row := by
  obtain ⟨S, T, X, I, o, L⟩ := B
  have e : ∀ c s, (c ≠ 121 ∨ (s ≠ 34 ∧ s ≠ 35)) → c ≠ 138 → c ≠ 144 → c ≠ 145 → c ≠ 146 → c ≠ 147 → h' c s = h c s := F
  have ec : ∀ c s, c ≠ 121 → c ≠ 138 → c ≠ 144 → c ≠ 145 → c ≠ 146 → c ≠ 147 → h' c s = h c s := fun c s a b x y z w => e c s (Or.inl a) b x y z w
  refine ⟨?_, ?_, ?_, I, o, ?_⟩
  · intro q hq
    have : ∀ q ∈ msL, q.1 ≠ 34 ∧ q.1 ≠ 35 := by decide
    rw [e _ _ (Or.inr (this q hq)) (by decide) (by decide) (by decide) (by decide) (by decide)]
    exact S q hq
  · unfold SpM spT at T ⊢
    simp only [ec 139 _ (by decide) (by decide) (by decide) (by decide) (by decide) (by decide), ec 140 _ (by decide) (by decide) (by decide) (by decide) (by decide) (by decide), ec 141 _ (by decide) (by decide) (by decide) (by decide) (by decide) (by decide), ec 142 _ (by decide) (by decide) (by decide) (by decide) (by decide) (by decide), ec 143 _ (by decide) (by decide) (by decide) (by decide) (by decide) (by decide)]
    exact T
  · unfold GM at X ⊢
    rw [e 121 1 (by decide) (by decide) (by decide) (by decide) (by decide) (by decide), e 121 2 (by decide) (by decide) (by decide) (by decide) (by decide) (by decide), e 121 3 (by decide) (by decide) (by decide) (by decide) (by decide) (by decide)]
    simp only [ec 122 _ (by decide) (by decide) (by decide) (by decide) (by decide) (by decide), ec 123 _ (by decide) (by decide) (by decide) (by decide) (by decide) (by decide), ec 124 _ (by decide) (by decide) (by decide) (by decide) (by decide) (by decide), ec 125 _ (by decide) (by decide) (by decide) (by decide) (by decide) (by decide), ec 126 _ (by decide) (by decide) (by decide) (by decide) (by decide) (by decide), ec 127 _ (by decide) (by decide) (by decide) (by decide) (by decide) (by decide), ec 128 _ (by decide) (by decide) (by decide) (by decide) (by decide) (by decide), ec 129 _ (by decide) (by decide) (by decide) (by decide) (by decide) (by decide), ec 130 _ (by decide) (by decide) (by decide) (by decide) (by decide) (by decide), ec 131 _ (by decide) (by decide) (by decide) (by decide) (by decide) (by decide), ec 132 _ (by decide) (by decide) (by decide) (by decide) (by decide) (by decide), ec 133 _ (by decide) (by decide) (by decide) (by decide) (by decide) (by decide), ec 134 _ (by decide) (by decide) (by decide) (by decide) (by decide) (by decide)]
    exact X
  · unfold LetM at L ⊢
    rw [e 121 32 (by decide) (by decide) (by decide) (by decide) (by decide) (by decide)]
    simp only [ec 137 _ (by decide) (by decide) (by decide) (by decide) (by decide) (by decide)]
    exact L
theorem bm_S (B : BM h G ob n row) : MShp h := B.1
theorem bm_W (B : BM h G ob n row) : WF G := B.2.2.2.1.1
theorem bm_X (B : BM h G ob n row) : GM h G ob := B.2.2.1
theorem bm_ob (B : BM h G ob n row) : 0 ≤ ob ∧ ob < 256 := B.2.2.2.2.1
theorem bm_L (B : BM h G ob n row) : LetM h n row := B.2.2.2.2.2
/-- with letters and trees out of some kind laid ready, the search may begin -/
theorem RepM_mk (B : BM h G ob n row) {b : Int} (h35 : h 121 35 = b) (b0 : 0 ≤ b) (b1 : b < 256) : RepM h G (ouB b) (h 138) := by
  obtain ⟨S, T, X, I, o, L⟩ := B
  obtain ⟨x1, x2, x3, x4, x5, x6⟩ := X
  have nt := wf_nt I.1
  refine ⟨S, x1, x2, x4, fun m m0 m1 => ?_, fun t t0 t1 => (x6 t t0 t1).2.1, fun t t0 t1 => ?_, fun _ _ _ => rfl, fun i j p q a b c d => ⟨(T.1 i j p q a b c d).1, (T.1 i j p q a b c d).2.1⟩, ?_⟩
  · have := x5 m m0 m1
    exact ⟨this.1, this.2.1, this.2.2.1, this.2.2.2.1, this.2.2.2.2.1, this.2.2.2.2.2.2.1, this.2.2.2.2.2.2.2.1, this.2.2.2.2.2.2.2.2⟩
  · rw [h35]
    have := ouB_bit b0 b1 t0 (show t < 8 by omega)
    unfold bit at this
    rw [this]
    cases ouB b t <;> simp
  · intro i j p q i' j' p' q' a b c d a' b' c' d' he
    have t := (T.1 i j p q a b c d).2.2
    have t' := (T.1 i' j' p' q' a' b' c' d').2.2
    rw [he] at t
    exact ⟨t.1.symm.trans t'.1, t.2.1.symm.trans t'.2.1, t.2.2.1.symm.trans t'.2.2.1, t.2.2.2.symm.trans t'.2.2.2⟩
/-- how it stands when it has looked -/
def Look (h : Hp) (G : Gm) (b n : Int) (row : Int → Int) : Prop := RepM h G (ouB b) (h 138) ∧ Memo h G (ouB b) (h 138) ∧ h 121 34 = n ∧ ∀ i, 0 ≤ i → i < n → h 138 i = row i
theorem M_looksAt_ok (B : BM h G ob n row) {more : Int} (m0 : 0 ≤ i_or ob more) (m1 : i_or ob more < 256) : ∃ h', M_looksAt 121 more h = some h' ∧ Lk h h' ∧ Look h' G (i_or ob more) n row ∧ ∀ s, 0 ≤ s → s < 43200 → h' 144 s = -9 ∧ h' 145 s = -9 ∧ h' 146 s = -9 ∧ h' 147 s = 0 := by
  have k11 : kK 121 = 11 := by decide
  have S := bm_S B
  obtain ⟨l1, l2, l3, l4⟩ := bm_L B
  obtain ⟨g1, e1, f1, z1⟩ := M_forgets_ok S
  have t1 : ∀ s, g1 121 s = h 121 s := fun s => f1 121 s (by decide) (by decide) (by decide) (by decide)
  have s31 : h 121 31 = 137 := ms_at S (by decide)
  have s33 : h 121 33 = 138 := ms_at S (by decide)
  have k37 : kK 137 = 21 ∧ kL 137 = 8 := by decide
  have k38 : kK 138 = 21 ∧ kL 138 = 8 := by decide
  obtain ⟨g2, e2, f2, z2⟩ := loop_ok (body := fun q => M_looksAt_L14 121 more q.1 q.2) (fun s => 0 ≤ s.1 ∧ s.1 ≤ n ∧ (∀ c k, c ≠ 138 → s.2 c k = (hput g1 121 34 n) c k) ∧ ∀ k, 0 ≤ k → k < s.1 → s.2 138 k = row k) (fun s => (n - s.1).toNat) (fun g => (∀ c k, c ≠ 138 → g c k = (hput g1 121 34 n) c k) ∧ ∀ k, 0 ≤ k → k < n → g 138 k = row k) (by
    rintro ⟨k, g⟩ ⟨k0, k1, hF, hZ⟩
    simp only at k0 k1 hF hZ
    simp only
    have e34 : g 121 34 = n := by rw [hF 121 34 (by decide), hput_eq]
    have e31 : g 121 31 = 137 := by rw [hF 121 31 (by decide), hput_ne2 (by decide), t1, s31]
    have e33 : g 121 33 = 138 := by rw [hF 121 33 (by decide), hput_ne2 (by decide), t1, s33]
    unfold M_looksAt_L14
    rw [if_pos k11, e34, e31, e33]
    by_cases hk : n ≤ k
    · right
      exact ⟨g, by rw [if_pos hk], hF, fun s a b => hZ s a (by omega)⟩
    · left
      have e37 : g 137 k = row k := by rw [hF 137 k (by decide), hput_ne1 (by decide), f1 137 k (by decide) (by decide) (by decide) (by decide)]; exact (l4 k k0 (by omega)).1
      refine ⟨(k + 1, hput g 138 k (row k)), by rw [if_neg hk, if_pos ⟨k37.1, k0, by rw [k37.2]; omega⟩, if_pos ⟨k38.1, k0, by rw [k38.2]; omega⟩, e37, show w32 (k + 1) = k + 1 by unfold w32; omega], ⟨by simp only; omega, by simp only; omega, ?_, ?_⟩, by simp only; omega⟩
      · intro c s hc
        simp only
        rw [hput_ne1 hc]
        exact hF c s hc
      · intro s s0 s1
        simp only at s1 ⊢
        by_cases hs : s = k
        · subst hs; rw [hput_eq]
        · rw [hput_ne2 hs]; exact hZ s s0 (by omega)) LN (0, hput g1 121 34 n) ⟨Int.le_refl _, l2, fun _ _ _ => rfl, fun k a b => by simp only at b; omega⟩ (by unfold LN; simp only; omega)
  have e3 : g2 121 3 = ob := by rw [f2 121 3 (by decide), hput_ne2 (by decide), t1]; exact (bm_X B).2.2.1
  have F : Lk h (hput g2 121 35 (i_or ob more)) := by
    intro c s h1 h2 h3 h4 h5 h6
    rw [show hput g2 121 35 (i_or ob more) c s = g2 c s by
      rcases h1 with q | q
      · exact hput_ne1 q
      · exact hput_ne2 q.2, f2 c s h2, show hput g1 121 34 n c s = g1 c s by
      rcases h1 with q | q
      · exact hput_ne1 q
      · exact hput_ne2 q.1]
    exact f1 c s h3 h4 h5 h6
  have kept : ∀ c s, c ≠ 121 → c ≠ 138 → (hput g2 121 35 (i_or ob more)) c s = g1 c s := fun c s a b => by rw [hput_ne1 a, f2 c s b, hput_ne1 a]
  have B' := BM_lk B F
  refine ⟨hput g2 121 35 (i_or ob more), ?_, F, ⟨RepM_mk B' (by rw [hput_eq]) m0 m1, ?_, by rw [hput_ne2 (by decide), f2 121 34 (by decide), hput_eq], fun i i0 i1 => by rw [hput_ne1 (by decide)]; exact z2 i i0 i1⟩, ?_⟩
  · unfold M_looksAt
    rw [if_pos k11, e1, ob_some]
    simp only
    rw [t1 32, l1, e2, ob_some, e3]
  · intro half node i j p q hi
    left
    rw [kept 144 _ (by decide) (by decide)]
    have := mkey_in (RepM_mk B' (b := i_or ob more) (by rw [hput_eq]) m0 m1) (bm_W B) hi
    exact (z1 _ this.1 this.2).1
  · intro s s0 s1
    rw [kept 144 _ (by decide) (by decide), kept 145 _ (by decide) (by decide), kept 146 _ (by decide) (by decide), kept 147 _ (by decide) (by decide)]
    exact z1 s s0 s1
end
