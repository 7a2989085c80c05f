/-! grammar(): the reference, whole -/
section
variable {g g' f f0 : Hp} {t n N T tl oo : Int} {dd : Int → Dv} {G G0 : Gm} {tp row : Int → Int}
theorem laysTree_ok (K : GOK G dd) (BR : BRw f0 G) (t0 : 0 ≤ t) (t1 : t < nT G) : ∃ f', M_laysTree 121 t f0 = some f' ∧ LTI G t (ft G t - 1) f0 f' := by
  have S0 := BR.1
  have T8 := K.1
  have N40 := K.2.1
  have ft0 := GOK_in K t0 (by omega)
  have ft1 := GOK_in K (t := t + 1) (by omega) (by omega)
  have e1 := (K.2.2.2.2 t t0 t1).2.1
  have sz := szT_pos (dd t)
  have s16 : f0 121 16 = 132 := ms_at S0 (by decide)
  have s17 : f0 121 17 = 133 := ms_at S0 (by decide)
  have s18 : f0 121 18 = 134 := ms_at S0 (by decide)
  have s4 : f0 121 4 = 122 := ms_at S0 (by decide)
  have b1 : f0 122 (t + 1) = ft G (t + 1) := BR.2.1 (t + 1) (by omega) (by omega)
  have wt : w32 (t + 1) = t + 1 := by unfold w32; omega
  have p : ∀ {h : Hp} {c v : Int} (i : Int), c ≠ 121 → (hput h c t v) 121 i = h 121 i := fun i hc => hput_ne1 (fun z => hc z.symm)
  unfold M_laysTree
  rw [if_pos kK_121, s16, if_pos ⟨by decide, t0, by rw [show kL 132 = 8 by decide]; omega⟩]
  simp only
  rw [p 17 (by decide), s17, if_pos ⟨by decide, t0, by rw [show kL 133 = 8 by decide]; omega⟩, p 18 (by decide), p 18 (by decide), s18, if_pos ⟨by decide, t0, by rw [show kL 134 = 8 by decide]; omega⟩, p 4 (by decide), p 4 (by decide), p 4 (by decide), s4, wt, if_pos ⟨by decide, by omega, by rw [show kL 122 = 18 by decide]; omega⟩, hput_ne1 (show (122 : Int) ≠ 134 by decide), hput_ne1 (show (122 : Int) ≠ 133 by decide), hput_ne1 (show (122 : Int) ≠ 132 by decide), b1, show w32 (ft G (t + 1) - 1) = ft G (t + 1) - 1 by unfold w32; omega]
  have I0 : LTI G t (ft G (t + 1) - 1) f0 (hput (hput (hput f0 132 t (-1)) 133 t (-1)) 134 t 0) := by
    refine ⟨fun m m0 m1 => by omega, ?_, ?_, ?_, fun c s h1 h2 => by rw [hput_no (by omega), hput_no (by omega), hput_no (by omega)]⟩
    · rw [hput_ne1 (by decide), hput_ne1 (by decide), hput_eq]
      unfold fkA
      rw [show (ft G (t + 1) - (ft G (t + 1) - 1 + 1)).toNat = 0 by omega]
      rfl
    · rw [hput_ne1 (by decide), hput_eq]
      unfold fkA
      rw [show (ft G (t + 1) - (ft G (t + 1) - 1 + 1)).toNat = 0 by omega]
      rfl
    · rw [hput_eq]
      unfold plA
      rw [sI_none (by omega)]
      rfl
  generalize hput (hput (hput f0 132 t (-1)) 133 t (-1)) 134 t 0 = f3 at I0 ⊢
  obtain ⟨r, e, pr⟩ := loop_ok (body := fun q : Int × Hp => M_laysTree_L32 121 t q.1 q.2) (fun q => (ft G t - 1 ≤ q.1 ∧ q.1 < ft G (t + 1)) ∧ LTI G t q.1 f0 q.2) (fun q => (q.1 + 1 - ft G t).toNat) (fun r => LTI G t (ft G t - 1) f0 r) (by
    rintro ⟨m, f⟩ ⟨⟨m0, m1⟩, I⟩
    simp only at m0 m1 I
    simp only
    by_cases hm : m < ft G t
    · right
      have : m = ft G t - 1 := by omega
      subst this
      have e121 : ∀ s, f 121 s = f0 121 s := fun s => I.2.2.2.2 121 s (by omega) (by omega)
      have r122 : f 122 t = ft G t := by rw [I.2.2.2.2 122 t (by omega) (by omega)]; exact BR.2.1 t t0 (by omega)
      refine ⟨f, ?_, I⟩
      unfold M_laysTree_L32
      rw [if_pos kK_121, e121, s4, if_pos ⟨by decide, t0, by rw [show kL 122 = 18 by decide]; omega⟩, r122, if_pos hm]
    · left
      obtain ⟨f', e, I'⟩ := lays1 K BR I t0 t1 (by omega) m1
      exact ⟨(m - 1, f'), e, ⟨⟨by simp only; omega, by simp only; omega⟩, I'⟩, by simp only; omega⟩) LN (ft G (t + 1) - 1, f3) ⟨⟨by simp only; omega, by simp only; omega⟩, I0⟩ (by unfold LN; simp only; omega)
  rw [e, ob_some]
  exact ⟨r, rfl, pr⟩
theorem fsA_no {k : Int} : ∀ (m : Nat) (lo : Int), 0 ≤ lo → (fsA G k lo m = -1 ↔ ∀ x, lo ≤ x → x < lo + m → kd G x ≠ k)
  | 0, lo, _ => ⟨fun _ x a b => by omega, fun _ => rfl⟩
  | m + 1, lo, h0 => by
    rw [fsA_s]
    by_cases z : kd G lo = k
    · rw [if_pos z]
      exact ⟨fun w => by omega, fun w => absurd z (w lo (Int.le_refl _) (by omega))⟩
    · rw [if_neg z, fsA_no m (lo + 1) (by omega)]
      constructor
      · intro w x a b
        by_cases y : x = lo
        · rw [y]; exact z
        · exact w x (by omega) (by omega)
      · intro w x a b
        exact w x (by omega) (by omega)
theorem fstK_sp (K : GOK G dd) (t0 : 0 ≤ t) (t1 : t < nT G) : fstK G t 3 = -1 ↔ sp G (ft G t) = 0 := by
  have ft0 := GOK_in K t0 (by omega)
  obtain ⟨H, e, _, ok⟩ := K.2.2.2.2 t t0 t1
  rw [(GOK_root K t0 t1).2.2]
  have in' := fsA_in (G := G) (k := 3) (ft G (t + 1) - ft G t).toNat (ft G t) ft0.1
  have no := fsA_no (G := G) (k := 3) (ft G (t + 1) - ft G t).toNat (ft G t) ft0.1
  have a : fstK G t 3 = -1 ↔ fsA G 3 (ft G t) (ft G (t + 1) - ft G t).toNat = -1 := by
    unfold fstK
    by_cases z : fsA G 3 (ft G t) (ft G (t + 1) - ft G t).toNat = -1
    · rw [if_pos z]; exact ⟨fun _ => z, fun _ => rfl⟩
    · rw [if_neg z]; exact ⟨fun w => by omega, fun w => absurd w z⟩
  rw [a, no]
  constructor
  · intro w
    by_cases z : 1 ≤ ftT (dd t)
    · rw [← ktT_ft] at z
      obtain ⟨x, x0, x1, q⟩ := kt_ex (Or.inr (Or.inl rfl)) (dd t) (ft G t) (-1) H z
      exact absurd q (w x x0 (by omega))
    · omega
  · intro w x x0 x1 q
    have := kt_of (k := 3) (n := x) H x0 (by omega) q (Or.inr (Or.inl rfl))
    rw [ktT_ft] at this
    omega
theorem L334_ok {d : Nat} (K : GOK G dd) (BR : BRw g G) (e1 : g 121 1 = nT G) : ∃ g', loopN (fun q => M_grammar_L334 d 121 q.1 q.2) LN (0, g) = some g' ∧ (∀ c s, (c < 129 ∨ 134 < c) → g' c s = g c s) ∧ (∀ m, 0 ≤ m → m < nN G → g' 131 m = tr G m ∧ g' 129 m = nd G m ∧ g' 130 m = sp G m) ∧ ∀ t, 0 ≤ t → t < nT G → g' 132 t = fstK G t 3 ∧ g' 133 t = fstK G t 1 ∧ g' 134 t = plc G t := by
  have T8 := K.1
  have N40 := K.2.1
  have W := GOK_WF K
  obtain ⟨r, e, p1, p2, p3⟩ := loop_ok (body := fun q : Int × Hp => M_grammar_L334 d 121 q.1 q.2) (fun q => (0 ≤ q.1 ∧ q.1 ≤ nT G) ∧ (∀ c s, (c < 129 ∨ 134 < c) → q.2 c s = g c s) ∧ (∀ m, 0 ≤ m → m < ft G q.1 → q.2 131 m = tr G m ∧ q.2 129 m = nd G m ∧ q.2 130 m = sp G m) ∧ ∀ t, 0 ≤ t → t < q.1 → q.2 132 t = fstK G t 3 ∧ q.2 133 t = fstK G t 1 ∧ q.2 134 t = plc G t) (fun q => (nT G - q.1).toNat) (fun r : Hp => (∀ c s, (c < 129 ∨ 134 < c) → r c s = g c s) ∧ (∀ m, 0 ≤ m → m < nN G → r 131 m = tr G m ∧ r 129 m = nd G m ∧ r 130 m = sp G m) ∧ ∀ t, 0 ≤ t → t < nT G → r 132 t = fstK G t 3 ∧ r 133 t = fstK G t 1 ∧ r 134 t = plc G t) (by
    rintro ⟨t, f⟩ ⟨⟨t0, t1⟩, fr, i1, i2⟩
    simp only at t0 t1 fr i1 i2
    simp only
    unfold M_grammar_L334
    rw [if_pos kK_121, fr 121 1 (by omega), e1]
    by_cases ht : nT G ≤ t
    · right
      have : t = nT G := by omega
      rw [if_pos ht]
      refine ⟨f, rfl, fr, fun m m0 m1 => i1 m m0 (by rw [this, K.2.2.2.1]; exact m1), fun u u0 u1 => i2 u u0 (by omega)⟩
    · left
      have ft0 := GOK_in K t0 (by omega)
      have ft1 := GOK_in K (t := t + 1) (by omega) (by omega)
      have BRf : BRw f G := by
        refine ⟨fun q hq => by rw [fr 121 q.1 (by omega)]; exact BR.1 q hq, fun s a b => by rw [fr 122 s (by omega)]; exact BR.2.1 s a b, fun m a b => ?_⟩
        rw [fr 123 m (by omega), fr 126 m (by omega), fr 127 m (by omega)]
        exact BR.2.2 m a b
      obtain ⟨f', e, I⟩ := laysTree_ok K BRf t0 (by omega)
      obtain ⟨j1, j2, j3, j4, j5⟩ := I
      rw [if_neg ht, e, ob_some]
      refine ⟨(t + 1, f'), by rw [show w32 (t + 1) = t + 1 by unfold w32; omega], ⟨⟨by simp only; omega, by simp only; omega⟩, fun c s z => by simp only; rw [j5 c s (by omega) (by omega)]; exact fr c s z, fun m m0 m1 => ?_, fun u u0 u1 => ?_⟩, by simp only; omega⟩
      · simp only at m1 ⊢
        by_cases z : m < ft G t
        · rw [j5 131 m (by omega) (by omega), j5 129 m (by omega) (by omega), j5 130 m (by omega) (by omega)]
          exact i1 m m0 z
        · have q := j1 m (by omega) m1
          rw [W.2.2.2.2.2.1 m t t0 (by omega) (by omega) m1]
          exact q
      · simp only at u1 ⊢
        by_cases z : u = t
        · rw [z, j2, j3, j4]
          unfold fkA fstK plA plc
          rw [show ft G t - 1 + 1 = ft G t by omega]
          exact ⟨rfl, rfl, rfl⟩
        · rw [j5 132 u (by omega) (by omega), j5 133 u (by omega) (by omega), j5 134 u (by omega) (by omega)]
          exact i2 u u0 (by omega)) LN (0, g) ⟨⟨Int.le_refl _, T8.1⟩, fun _ _ _ => rfl, fun m m0 m1 => by simp only at m1; rw [K.2.2.1] at m1; omega, fun u u0 u1 => by simp only at u1; omega⟩ (by unfold LN; simp only; omega)
  exact ⟨r, e, p1, p2, p3⟩
/-- what grammar() may change -/
def MGF (g g' : Hp) : Prop := ∀ c s, (c ≠ 121 ∨ (s ≠ 1 ∧ s ≠ 2 ∧ s ≠ 3 ∧ s ≠ 11 ∧ s ≠ 12 ∧ s ≠ 20 ∧ s ≠ 22 ∧ (s < 23 ∨ 30 < s))) → (c < 122 ∨ 134 < c) → g' c s = g c s
theorem SpM_eq (T : SpM g) (e : ∀ c s, 139 ≤ c → c ≤ 143 → g' c s = g c s) : SpM g' := by
  unfold SpM spT at T ⊢
  simp only [e 139 _ (by decide) (by decide), e 140 _ (by decide) (by decide), e 141 _ (by decide) (by decide), e 142 _ (by decide) (by decide), e 143 _ (by decide) (by decide)]
  exact T
theorem LetM_eq (L : LetM g n row) (e1 : g' 121 32 = g 121 32) (e : ∀ s, g' 137 s = g 137 s) : LetM g' n row := by
  unfold LetM at L ⊢
  rw [e1]
  simp only [e]
  exact L
theorem MShp_gf (S : MShp g) (F : MGF g g') : MShp g' := by
  intro q hq
  have : ∀ q ∈ msL, q.1 ≠ 1 ∧ q.1 ≠ 2 ∧ q.1 ≠ 3 ∧ q.1 ≠ 11 ∧ q.1 ≠ 12 ∧ q.1 ≠ 20 ∧ q.1 ≠ 22 ∧ (q.1 < 23 ∨ 30 < q.1) := by decide
  rw [F 121 q.1 (Or.inr (this q hq)) (Or.inl (by decide))]
  exact S q hq
def WRes (g g' : Hp) (G0 : Gm) (oo n : Int) (row : Int → Int) (v : Int) : (Int × Int) ⊕ (Int × Int × (Int → Dv)) → Prop
  | .inl z => v = -4 ∧ g' 121 27 = z.1 ∧ g' 121 28 = z.2 ∧ BM g' G0 oo n row
  | .inr z => v = z.1 ∧ g' 121 27 = 0 ∧ g' 121 28 = -1 ∧ ∀ G, GOK G z.2.2 → nT G = z.1 → nN G = z.2.1 → BM g' G 0 n row
def mgH (g : Hp) : Hp := hput (hput (hput (hput (hput (hput (hput g 121 22 (g 121 20)) 121 20 0) 121 23 0) 121 27 0) 121 28 (-1)) 121 11 0) 121 12 0
def mgC (d : Nat) (e91 : Hp) : Option (Int × Hp) :=
  ob (loopN (fun q => M_grammar_L124 d 121 q.1 q.2) LN (0, hput (hput (hput e91 121 1 (e91 121 11)) 121 2 ((hput e91 121 1 (e91 121 11)) 121 12)) 121 3 0)) (fun e153 =>
    if kK (e153 121 4) = 21 ∧ (0 : Int) ≤ e153 121 1 ∧ e153 121 1 < kL (e153 121 4) then
    ob (loopN (fun q => M_grammar_L168 d 121 q.1 q.2) LN (0, hput e153 (e153 121 4) (e153 121 1) (e153 121 2))) (fun e332 =>
      ob (loopN (fun q => M_grammar_L334 d 121 q.1 q.2) LN (0, e332)) (fun e353 => some (e353 121 1, e353)))
    else none)
theorem grammar_eq (d : Nat) (g : Hp) : M_grammar d 121 g = if kK 121 = 11 then ob (M_advanceLine 121 (mgH g)) (fun r39 => ob (loopN (fun q => M_grammar_L42 d 121 q) LN r39) (fun e91 => ob (M_good 121 e91) (fun r92 => if r92 = 0 then some ((-4), e91) else mgC d e91))) else none := rfl
/-- what was read is taken over -/
theorem mgC_ok {d : Nat} {p : Int} {G : Gm} (K : GOK G dd) (hT : nT G = T) (hN : nN G = N) (L : ML g tl tp T N p dd) : ∃ g', mgC d g = some (T, g') ∧ (∀ c s, (c ≠ 121 ∨ (s ≠ 1 ∧ s ≠ 2 ∧ s ≠ 3)) → (c < 122 ∨ 134 < c) → g' c s = g c s) ∧ GM g' G 0 := by
  have T8 := K.1
  have N40 := K.2.1
  obtain ⟨S, E, ⟨ok, f28, e11, e12⟩, tt, nn, pp, TX, e24, tk⟩ := L
  subst hT
  subst hN
  obtain ⟨rB, rR⟩ := rows_eq K TX
  have c3 : ∀ c s, (c ≠ 121 ∨ (s ≠ 1 ∧ s ≠ 2 ∧ s ≠ 3)) → (hput (hput (hput g 121 1 (nT G)) 121 2 (nN G)) 121 3 0) c s = g c s := fun c s z => by rw [hput_no (by omega), hput_no (by omega), hput_no (by omega)]
  have v1 : (hput (hput (hput g 121 1 (nT G)) 121 2 (nN G)) 121 3 0) 121 1 = nT G := by rw [hput_ne2 (by decide), hput_ne2 (by decide), hput_eq]
  have v2 : (hput (hput (hput g 121 1 (nT G)) 121 2 (nN G)) 121 3 0) 121 2 = nN G := by rw [hput_ne2 (by decide), hput_eq]
  have v3 : (hput (hput (hput g 121 1 (nT G)) 121 2 (nN G)) 121 3 0) 121 3 = 0 := hput_eq ..
  unfold mgC
  rw [e11, hput_ne2 (show (12 : Int) ≠ 1 by decide), e12]
  generalize hput (hput (hput g 121 1 (nT G)) 121 2 (nN G)) 121 3 0 = g3 at c3 v1 v2 v3 ⊢
  have S3 : MShp g3 := fun q hq => by
    have : ∀ q ∈ msL, q.1 ≠ 1 ∧ q.1 ≠ 2 ∧ q.1 ≠ 3 := by decide
    rw [c3 121 q.1 (Or.inr (this q hq))]; exact S q hq
  obtain ⟨g4, l4, F4, B4⟩ := L124_ok (d := d) S3 v1 T8.1 T8.2
  have at4 : ∀ s, g4 121 s = g3 121 s := fun s => F4 121 s (Or.inl (by decide))
  have s44 : g4 121 4 = 122 := by rw [at4]; exact ms_at S3 (by decide)
  rw [l4, ob_some, s44, at4 1, v1, at4 2, v2, if_pos ⟨by decide, T8.1, by rw [show kL 122 = 18 by decide]; omega⟩]
  have c5 : ∀ c s, (c ≠ 122 ∨ s < 0 ∨ nT G < s) → (hput g4 122 (nT G) (nN G)) c s = g3 c s := fun c s z => by rw [hput_no (by omega)]; exact F4 c s (by omega)
  have b5 : ∀ t, 0 ≤ t → t ≤ nT G → (hput g4 122 (nT G) (nN G)) 122 t = ft G t := fun t t0 t1 => by
    by_cases z : t = nT G
    · rw [z, hput_eq, K.2.2.2.1]
    · rw [hput_ne2 z, B4 t t0 (by omega), c3 122 (9 + t) (Or.inl (by decide))]
      exact rB t t0 (by omega)
  generalize hput g4 122 (nT G) (nN G) = g5 at c5 b5 ⊢
  have S5 : MShp g5 := fun q hq => by rw [c5 121 q.1 (Or.inl (by decide))]; exact S3 q hq
  obtain ⟨g6, l6, F6, R6⟩ := L168_ok (d := d) S5 (by rw [c5 121 2 (Or.inl (by decide))]; exact v2) N40.1 N40.2
  have sc : ∀ c n, 123 ≤ c → c ≤ 128 → g5 c (40 + n) = g c (40 + n) := fun c n a b => by rw [c5 c _ (by omega), c3 c _ (by omega)]
  have W := GOK_WF K
  obtain ⟨w1, w2, w3, w4, w5, w6, w7, w8, w9, w10, w11, w12, w13⟩ := W
  have rows : ∀ n, 0 ≤ n → n < nN G → g6 123 n = kd G n ∧ g6 124 n = lb G n ∧ g6 125 n = mk G n ∧ g6 126 n = c1 G n ∧ g6 127 n = c2 G n ∧ g6 128 n = up G n := by
    intro n n0 n1
    obtain ⟨q0, q1, q2, q3, q4, q5⟩ := R6 n n0 n1
    obtain ⟨t, x, w, t0, t1, a, b, c, Sx⟩ := GOK_at K n0 n1
    have lc := Hd_loc x n w Sx.1
    have fb := GOK_in K t0 (by omega)
    have fb1 := GOK_in K (t := t + 1) (by omega) (by omega)
    have r0 : g 123 (40 + n) = kd G n := by have := rR 0 n (by decide) (by decide) n0 n1; rw [RM_0 (by decide) (by decide)] at this; exact this
    have r1 : g 124 (40 + n) = lb G n := by have := rR 1 n (by decide) (by decide) n0 n1; rw [RM_0 (by decide) (by decide)] at this; exact this
    have r2 : g 125 (40 + n) = mk G n := by have := rR 2 n (by decide) (by decide) n0 n1; rw [RM_0 (by decide) (by decide)] at this; exact this
    have r3 : upT (g 126 (40 + n)) = c1 G n := by have := rR 3 n (by decide) (by decide) n0 n1; rw [RM_3 (by decide) (by decide)] at this; exact this
    have r4 : upT (g 127 (40 + n)) = c2 G n := by have := rR 4 n (by decide) (by decide) n0 n1; rw [RM_3 (by decide) (by decide)] at this; exact this
    have r5 : upT (g 128 (40 + n)) = up G n := by have := rR 5 n (by decide) (by decide) n0 n1; rw [RM_3 (by decide) (by decide)] at this; exact this
    have cb : (-1 ≤ c1 G n ∧ c1 G n ≤ 40) ∧ (-1 ≤ c2 G n ∧ c2 G n ≤ 40) := by
      by_cases k0 : kd G n = 0
      · have := w8 n n0 n1 k0
        rw [c] at this
        omega
      · have := w9 n n0 n1 k0
        omega
    have ub : -1 ≤ up G n ∧ up G n ≤ 40 := by
      have uw : up G n = w := lc.2.2.2.2.2.2.2.2
      by_cases z : ft G t < n
      · have := Sx.2.2.2.2.2.2 z; omega
      · have := (Sx.2.2.2.2.2.1 (by omega)).2; omega
    rw [sc 123 n (by decide) (by decide), r0] at q0
    rw [sc 124 n (by decide) (by decide), r1] at q1
    rw [sc 125 n (by decide) (by decide), r2] at q2
    rw [sc 126 n (by decide) (by decide), cpV_up r3 cb.1.1 cb.1.2] at q3
    rw [sc 127 n (by decide) (by decide), cpV_up r4 cb.2.1 cb.2.2] at q4
    rw [sc 128 n (by decide) (by decide), cpV_up r5 ub.1 ub.2] at q5
    exact ⟨q0, q1, q2, q3, q4, q5⟩
  rw [l6, ob_some]
  have at6 : ∀ s, g6 121 s = g3 121 s := fun s => by rw [F6 121 s (by omega), c5 121 s (Or.inl (by decide))]
  have b6 : ∀ t, 0 ≤ t → t ≤ nT G → g6 122 t = ft G t := fun t t0 t1 => by rw [F6 122 t (by omega)]; exact b5 t t0 t1
  have BR6 : BRw g6 G := ⟨fun q hq => by rw [at6]; exact S3 q hq, b6, fun m m0 m1 => ⟨(rows m m0 m1).1, (rows m m0 m1).2.2.2.1, (rows m m0 m1).2.2.2.2.1⟩⟩
  obtain ⟨g7, l7, F7, R7, Q7⟩ := L334_ok (d := d) K BR6 (by rw [at6]; exact v1)
  have at7 : ∀ s, g7 121 s = g3 121 s := fun s => by rw [F7 121 s (by omega)]; exact at6 s
  rw [l7, ob_some, at7 1, v1]
  refine ⟨g7, rfl, fun c s h1 h2 => ?_, by rw [at7]; exact v1, by rw [at7]; exact v2, by rw [at7]; exact v3, fun t t0 t1 => by rw [F7 122 t (by omega)]; exact b6 t t0 t1, fun n n0 n1 => ?_, fun t t0 t1 => ?_⟩
  · rw [F7 c s (by omega), F6 c s (by omega), c5 c s (by omega), c3 c s h1]
  · have r := rows n n0 n1
    have q := R7 n n0 n1
    rw [F7 123 n (by omega), F7 124 n (by omega), F7 125 n (by omega), F7 126 n (by omega), F7 127 n (by omega), F7 128 n (by omega)]
    exact ⟨r.1, r.2.1, r.2.2.1, r.2.2.2.1, r.2.2.2.2.1, r.2.2.2.2.2, q.2.1, q.2.2, q.1⟩
  · have q := Q7 t t0 t1
    rw [q.1, q.2.1, q.2.2]
    exact ⟨rfl, fstK_sp K t0 t1, rfl, rfl⟩
theorem M_grammar_ok {d : Nat} (B : BM g G0 oo n row) (X : TapM g tl tp) (tb : 0 ≤ tl ∧ tl ≤ 400) (tpb : ∀ i, 0 ≤ i → i < tl → -128 ≤ tp i ∧ tp i < 128) (e59 : g 121 59 = 156) (hd : 421 ≤ d) (hK : ∀ T N dd, gT tl tp 9 0 0 (blA tl tp 0) (fun _ => .zero) = .inr (T, N, dd) → ∃ G, GOK G dd ∧ nT G = T ∧ nN G = N) : ∃ v g', M_grammar d 121 g = some (v, g') ∧ g' 121 20 = 0 ∧ MGF g g' ∧ WRes g g' G0 oo n row v (gT tl tp 9 0 0 (blA tl tp 0) (fun _ => .zero)) := by
  obtain ⟨S, SP, GMh, GI, o8, LM⟩ := B
  have c0 : ∀ c s, (c ≠ 121 ∨ (s ≠ 22 ∧ s ≠ 20 ∧ s ≠ 23 ∧ s ≠ 27 ∧ s ≠ 28 ∧ s ≠ 11 ∧ s ≠ 12)) → (mgH g) c s = g c s := fun c s z => by
    unfold mgH
    rw [hput_no (by omega), hput_no (by omega), hput_no (by omega), hput_no (by omega), hput_no (by omega), hput_no (by omega), hput_no (by omega)]
  have v22 : (mgH g) 121 22 = tl := by
    unfold mgH
    rw [hput_ne2 (by decide), hput_ne2 (by decide), hput_ne2 (by decide), hput_ne2 (by decide), hput_ne2 (by decide), hput_ne2 (by decide), hput_eq]
    exact X.1
  have v20 : (mgH g) 121 20 = 0 := by
    unfold mgH
    rw [hput_ne2 (by decide), hput_ne2 (by decide), hput_ne2 (by decide), hput_ne2 (by decide), hput_ne2 (by decide), hput_eq]
  have v23 : (mgH g) 121 23 = 0 := by
    unfold mgH
    rw [hput_ne2 (by decide), hput_ne2 (by decide), hput_ne2 (by decide), hput_ne2 (by decide), hput_eq]
  have v27 : (mgH g) 121 27 = 0 := by
    unfold mgH
    rw [hput_ne2 (by decide), hput_ne2 (by decide), hput_ne2 (by decide), hput_eq]
  have v28 : (mgH g) 121 28 = -1 := by
    unfold mgH
    rw [hput_ne2 (by decide), hput_ne2 (by decide), hput_eq]
  have v11 : (mgH g) 121 11 = 0 := by
    unfold mgH
    rw [hput_ne2 (by decide), hput_eq]
  have v12 : (mgH g) 121 12 = 0 := by
    unfold mgH
    rw [hput_eq]
  rw [grammar_eq, if_pos kK_121]
  generalize mgH g = h7 at c0 v22 v20 v23 v27 v28 v11 v12
  have F0 : MGF g h7 := fun c s h1 _ => c0 c s (by omega)
  have E7 : HeE h7 tl tp := ⟨⟨v22, tb⟩, by rw [c0 121 19 (Or.inr (by decide))]; exact ms_at S (by decide), by rw [c0 121 59 (Or.inr (by decide))]; exact e59, fun i i0 i1 => ⟨by rw [c0 135 i (Or.inl (by decide))]; exact X.2 i i0 i1, tpb i i0 i1⟩⟩
  obtain ⟨g1, a1, F1, b24, bt⟩ := advanceLine_ok E7 v23 (Int.le_refl 0) (by decide)
  have bl := blA_le (tl := tl) (tp := tp) 0
  have b2 := bl.2.1 tb.1
  have at1 : ∀ s, s ≠ 23 → s ≠ 24 → s ≠ 25 → s ≠ 26 → g1 121 s = h7 121 s := fun s a1 a2 a3 a4 => F1 121 s (Or.inr ⟨a1, a2, a3, a4⟩)
  have F1' : MGF g g1 := fun c s h1 h2 => by rw [F1 c s (by omega), F0 c s h1 h2]
  have S1 : MShp g1 := MShp_gf S F1'
  have L1 : ML g1 tl tp 0 0 (blA tl tp 0) (fun _ => .zero) := by
    refine ⟨S1, HeE_f E7 F1.he, ⟨?_, ?_, ?_, ?_⟩, by decide, by decide, ⟨by omega, b2⟩, ⟨fun _ => 0, rfl, rfl, fun t t0 t1 => by omega⟩, b24, bt⟩
    · rw [at1 27 (by decide) (by decide) (by decide) (by decide)]; exact v27
    · rw [at1 28 (by decide) (by decide) (by decide) (by decide)]; exact v28
    · rw [at1 11 (by decide) (by decide) (by decide) (by decide)]; exact v11
    · rw [at1 12 (by decide) (by decide) (by decide) (by decide)]; exact v12
  obtain ⟨g2, e2, R2⟩ := mtext_ok (d := d) hd 9 LN 0 0 (blA tl tp 0) (fun _ => .zero) g1 L1 rfl (by unfold LN; decide)
  rw [a1, ob_some, e2, ob_some]
  have low : M0Fr g1 g2 → ∀ c s, (c = 122 ∧ s < 9) ∨ (123 ≤ c ∧ c ≤ 128 ∧ s < 40) ∨ (129 ≤ c) → g2 c s = g c s := fun F c s z => by
    rw [F c s (by omega) (by omega) (by omega), F1 c s (by omega), c0 c s (by omega)]
  have mgf : M0Fr g1 g2 → MGF g g2 := fun F c s h1 h2 => by rw [F c s (by omega) (by omega) (by omega), F1' c s h1 h2]
  have k20 : M0Fr g1 g2 → g2 121 20 = 0 := fun F => by rw [F 121 20 (Or.inr (by decide)) (Or.inl (by decide)) (Or.inl (by decide)), at1 20 (by decide) (by decide) (by decide) (by decide)]; exact v20
  cases hg : gT tl tp 9 0 0 (blA tl tp 0) (fun _ => .zero) with
  | inl z =>
    rw [hg] at R2
    obtain ⟨z0, z1, z2, F⟩ := R2
    have M := mgf F
    rw [good_n (by rw [z1]; exact z0), ob_some, if_pos rfl]
    refine ⟨_, g2, rfl, k20 F, M, rfl, z1, z2, MShp_gf S M, SpM_eq SP (fun c s a b => M c s (by omega) (by omega)), ?_, GI, o8, LetM_eq LM (M 121 32 (Or.inr (by decide)) (Or.inl (by decide))) (fun s => M 137 s (by omega) (by omega))⟩
    obtain ⟨m1, m2, m3, m4, m5, m6⟩ := GMh
    have nt := wf_nt GI.1
    have nn := wf_nn GI.1
    have s3 : ∀ s, s = 1 ∨ s = 2 ∨ s = 3 → g2 121 s = g 121 s := fun s hs => by
      rw [F 121 s (Or.inr (by omega)) (Or.inl (by decide)) (Or.inl (by decide)), at1 s (by omega) (by omega) (by omega) (by omega), c0 121 s (Or.inr (by omega))]
    refine ⟨by rw [s3 1 (by decide)]; exact m1, by rw [s3 2 (by decide)]; exact m2, by rw [s3 3 (by decide)]; exact m3, fun t t0 t1 => by rw [low F 122 t (by omega)]; exact m4 t t0 t1, fun x x0 x1 => ?_, fun t t0 t1 => ?_⟩
    · rw [low F 123 x (by omega), low F 124 x (by omega), low F 125 x (by omega), low F 126 x (by omega), low F 127 x (by omega), low F 128 x (by omega), low F 129 x (by omega), low F 130 x (by omega), low F 131 x (by omega)]
      exact m5 x x0 x1
    · rw [low F 132 t (by omega), low F 133 t (by omega), low F 134 t (by omega)]
      exact m6 t t0 t1
  | inr z =>
    obtain ⟨T, N, dd⟩ := z
    rw [hg] at R2
    obtain ⟨⟨p, L⟩, F⟩ := R2
    have M := mgf F
    have L' := L
    obtain ⟨Sx, Ex, ⟨ok, f28, e11, e12⟩, tt, nn, pp, TX, _, _⟩ := L
    simp only at TX L'
    rw [good_y ok, ob_some, if_neg (by decide)]
    obtain ⟨G, K, hT, hN⟩ := hK T N dd hg
    obtain ⟨g3, e3, F3, GM3⟩ := mgC_ok (d := d) K hT hN L'
    have M3 : MGF g g3 := fun c s h1 h2 => by rw [F3 c s (by omega) h2, M c s h1 h2]
    refine ⟨T, g3, e3, by rw [F3 121 20 (Or.inr (by decide)) (Or.inl (by decide))]; exact k20 F, M3, rfl, by rw [F3 121 27 (Or.inr (by decide)) (Or.inl (by decide))]; exact ok, by rw [F3 121 28 (Or.inr (by decide)) (Or.inl (by decide))]; exact f28, fun G' K' hT' hN' => ?_⟩
    obtain ⟨g3', e3', F3', GM3'⟩ := mgC_ok (d := d) K' hT' hN' L'
    have : g3' = g3 := by
      rw [e3] at e3'
      injection e3' with e3'
      injection e3' with _ e
      exact e.symm
    rw [this] at GM3'
    exact ⟨MShp_gf S M3, SpM_eq SP (fun c s a b => M3 c s (by omega) (by omega)), GM3', GOK_GIn K', by decide, LetM_eq LM (M3 121 32 (Or.inr (by decide)) (Or.inl (by decide))) (fun s => M3 137 s (by omega) (by omega))⟩
end
