/-! grammar: the reference reads a line -/
def MFr (N T : Int) (g g' : Hp) : Prop := ∀ c s, (c ≠ 121 ∨ (s ≠ 11 ∧ s ≠ 12 ∧ s ≠ 23 ∧ s ≠ 24 ∧ s ≠ 25 ∧ s ≠ 26 ∧ s ≠ 27 ∧ s ≠ 28 ∧ s ≠ 29 ∧ s ≠ 30)) → (c < 123 ∨ 128 < c ∨ s < 40 + N) → (c ≠ 122 ∨ s < 9 + T) → g' c s = g c s
def TrN (g : Hp) (T N : Int) (dd : Int → Dv) : Prop := ∃ Bs : Int → Int, Bs 0 = 0 ∧ Bs T = N ∧ ∀ t, 0 ≤ t → t < T → g 122 (9 + t) = Bs t ∧ Hd false (RM g) (dd t) (Bs t) (-1) ∧ Bs (t + 1) = Bs t + szT (dd t) ∧ 0 ≤ Bs t ∧ Bs (t + 1) ≤ N
def ML (g : Hp) (tl : Int) (tp : Int → Int) (T N p : Int) (dd : Int → Dv) : Prop := MShp g ∧ HeE g tl tp ∧ (g 121 27 = 0 ∧ g 121 28 = -1 ∧ g 121 11 = T ∧ g 121 12 = N) ∧ (0 ≤ T ∧ T ≤ 8) ∧ (0 ≤ N ∧ N ≤ 40) ∧ (0 ≤ p ∧ p ≤ tl) ∧ TrN g T N dd ∧ g 121 24 = p ∧ ((wdA tl tp p ∧ g 121 25 = 1 ∧ g 121 23 = p + 4) ∨ (¬ wdA tl tp p ∧ g 121 25 = (if tpC tl tp p = -1 then 0 else 5) ∧ g 121 23 = p))
def MLR (g : Hp) (tl : Int) (tp : Int → Int) (T N : Int) (dd : Int → Dv) (g' : Hp) : (Int × Int) ⊕ (Dv × Int) → Prop
  | .inl z => z.1 ≠ 0 ∧ g' 121 27 = z.1 ∧ g' 121 28 = z.2 ∧ MFr N T g g'
  | .inr z => ML g' tl tp (T + 1) (N + szT z.1) z.2 (fun t => if t = T then z.1 else dd t) ∧ MFr N T g g'
section
variable {g g' g'' : Hp} {tl p N T : Int} {tp : Int → Int} {dd : Int → Dv}
theorem MFr.rf : MFr N T g g := fun _ _ _ _ _ => rfl
theorem MFr.tr (x : MFr N T g g') (y : MFr N T g' g'') : MFr N T g g'' := fun c s h1 h2 h3 => by rw [y c s h1 h2 h3, x c s h1 h2 h3]
theorem GFr.mf (x : GFr N g g') : MFr N T g g' := fun c s h1 h2 _ => x c s (by omega) h2
theorem MFr.he (F : MFr N T g g') (E : HeE g tl tp) : HeE g' tl tp := by
  obtain ⟨⟨a, b, c⟩, d, e, f⟩ := E
  refine ⟨⟨by rw [F 121 22 (Or.inr (by decide)) (Or.inl (by decide)) (Or.inl (by decide))]; exact a, b, c⟩, by rw [F 121 19 (Or.inr (by decide)) (Or.inl (by decide)) (Or.inl (by decide))]; exact d, by rw [F 121 59 (Or.inr (by decide)) (Or.inl (by decide)) (Or.inl (by decide))]; exact e, fun i i0 i1 => ?_⟩
  rw [F 135 i (Or.inl (by decide)) (by omega) (Or.inl (by decide))]
  exact f i i0 i1
theorem MFr.ms (F : MFr N T g g') (S : MShp g) : MShp g' := by
  intro q hq
  have : ∀ q ∈ msL, q.1 ≠ 11 ∧ q.1 ≠ 12 ∧ q.1 ≠ 23 ∧ q.1 ≠ 24 ∧ q.1 ≠ 25 ∧ q.1 ≠ 26 ∧ q.1 ≠ 27 ∧ q.1 ≠ 28 ∧ q.1 ≠ 29 ∧ q.1 ≠ 30 := by decide
  rw [F 121 q.1 (Or.inr (this q hq)) (Or.inl (by decide)) (Or.inl (by decide))]
  exact S q hq
theorem lettered_ok {x : Dv} {u : Int} (S : MShp g) (H : Hd false (RM g) x N u) (e12 : g 121 12 = N + szT x) (e29 : g 121 29 = N) (N0 : 0 ≤ N) (N1 : N + (szT x : Int) ≤ 40) : M_isLettered 121 g = some (if lckB x = true then 0 else 1) := by
  have s5 : g 121 5 = 123 := ms_at S (by decide)
  have k0 : ∀ n, RM g 0 n = g 123 (40 + n) := fun n => RM_0 (by decide) (by decide) n
  obtain ⟨r, e, pr⟩ := loop_ok (body := fun q : Int × Int => M_isLettered_L10 121 g q.1 q.2) (fun q => (40 + N ≤ q.2 ∧ q.2 ≤ 40 + N + szT x) ∧ (q.1 = 0 ∨ q.1 = 1) ∧ (∀ n, 40 + N ≤ n → n < q.2 → g 123 n ≠ 1) ∧ (q.1 = 1 ↔ ∃ n, 40 + N ≤ n ∧ n < q.2 ∧ (g 123 n = 3 ∨ g 123 n = 4))) (fun q => (40 + N + szT x - q.2).toNat) (fun r : Unit ⊕ Int => match r with
      | .inl _ => ∃ n, 40 + N ≤ n ∧ n < 40 + N + szT x ∧ g 123 n = 1
      | .inr v => (v = 0 ∨ v = 1) ∧ (∀ n, 40 + N ≤ n → n < 40 + N + szT x → g 123 n ≠ 1) ∧ (v = 1 ↔ ∃ n, 40 + N ≤ n ∧ n < 40 + N + szT x ∧ (g 123 n = 3 ∨ g 123 n = 4))) (by
    rintro ⟨v, n⟩ ⟨n0, v0, i1, i2⟩
    simp only at n0 v0 i1 i2
    simp only
    unfold M_isLettered_L10 M_isLettered_j57 M_isLettered_j62
    rw [if_pos kK_121, e12, show w32 (40 + (N + (szT x : Int))) = 40 + N + szT x by unfold w32; omega]
    by_cases hn : 40 + N + (szT x : Int) ≤ n
    · right
      have : n = 40 + N + szT x := by omega
      subst this
      rw [if_pos hn]
      exact ⟨_, rfl, v0, i1, i2⟩
    · rw [if_neg hn, s5, if_pos ⟨by decide, by omega, by rw [show kL 123 = 80 by decide]; omega⟩]
      by_cases h1 : g 123 n = 1
      · right
        rw [if_pos h1]
        exact ⟨_, rfl, n, by omega, by omega, h1⟩
      · left
        rw [if_neg h1, show w32 (n + 1) = n + 1 by unfold w32; omega]
        have nx : ∀ m, 40 + N ≤ m → m < n + 1 → g 123 m ≠ 1 := fun m m0 m1 => by
          by_cases z : m = n
          · rw [z]; exact h1
          · exact i1 m m0 (by omega)
        have one : (g 123 n = 3 ∨ g 123 n = 4 ∨ v = 1) → ((1 : Int) = 1 ↔ ∃ m, 40 + N ≤ m ∧ m < n + 1 ∧ (g 123 m = 3 ∨ g 123 m = 4)) := fun z => by
          refine ⟨fun _ => ?_, fun _ => rfl⟩
          rcases z with z | z | z
          · exact ⟨n, by omega, by omega, Or.inl z⟩
          · exact ⟨n, by omega, by omega, Or.inr z⟩
          · obtain ⟨m, m0, m1, w⟩ := i2.mp z
            exact ⟨m, m0, by omega, w⟩
        by_cases hv : v = 0
        · rw [if_pos hv]
          by_cases h3 : g 123 n = 3
          · rw [if_pos h3]
            exact ⟨(1, n + 1), rfl, ⟨by simp only; omega, Or.inr rfl, nx, one (Or.inl h3)⟩, by simp only; omega⟩
          · rw [if_neg h3]
            by_cases h4 : g 123 n = 4
            · rw [if_pos h4]
              exact ⟨(1, n + 1), rfl, ⟨by simp only; omega, Or.inr rfl, nx, one (Or.inr (Or.inl h4))⟩, by simp only; omega⟩
            · rw [if_neg h4]
              refine ⟨(0, n + 1), rfl, ⟨by simp only; omega, Or.inl rfl, nx, ⟨fun z => absurd (show (0 : Int) = 1 from z) (by decide), ?_⟩⟩, by simp only; omega⟩
              rintro ⟨m, m0, m1, w⟩
              have hm : m ≠ n := fun z => by rw [z] at w; exact w.elim h3 h4
              have := i2.mpr ⟨m, m0, by simp only at m1; omega, w⟩
              omega
        · rw [if_neg hv]
          exact ⟨(1, n + 1), rfl, ⟨by simp only; omega, Or.inr rfl, nx, one (Or.inr (Or.inr (v0.resolve_left hv)))⟩, by simp only; omega⟩) LN (0, 40 + N) ⟨by simp only; omega, Or.inl rfl, fun n a b => by simp only at b; omega, ⟨fun z => absurd (show (0 : Int) = 1 from z) (by decide), fun ⟨n, a, b, _⟩ => by simp only at b; omega⟩⟩ (by unfold LN; simp only; omega)
  have tr : ∀ k, (k = 1 ∨ k = 3 ∨ k = 4) → ((∃ n, 40 + N ≤ n ∧ n < 40 + N + szT x ∧ g 123 n = k) ↔ 1 ≤ ktT k x) := by
    intro k hk
    constructor
    · rintro ⟨n, a, b, w⟩
      refine kt_of (n := n - 40) H (by omega) (by omega) ?_ hk
      rw [k0, show 40 + (n - 40) = n by omega]
      exact w
    · intro z
      obtain ⟨n, a, b, w⟩ := kt_ex hk x N u H z
      rw [k0] at w
      exact ⟨40 + n, by omega, by omega, w⟩
  have t1 := tr 1 (Or.inl rfl)
  have t3 := tr 3 (Or.inr (Or.inl rfl))
  have t4 := tr 4 (Or.inr (Or.inr rfl))
  rw [ktT_lt] at t1
  rw [ktT_ft] at t3
  unfold M_isLettered
  rw [if_pos kK_121, e29, show w32 (40 + N) = 40 + N by unfold w32; omega, e, ob_some]
  cases r with
  | inl z =>
    have := t1.mp pr
    have nl : ¬ lckB x = true := fun w => by
      unfold lckB at w
      have := of_decide_eq_true w
      omega
    rw [if_neg nl]
  | inr v =>
    obtain ⟨p1, p2, p3⟩ := pr
    have l0 : ltT x = 0 := by
      by_cases z : 1 ≤ ltT x
      · obtain ⟨n, a, b, w⟩ := t1.mpr z
        exact absurd w (p2 n a b)
      · omega
    show some (if v = 0 then (1 : Int) else 0) = _
    by_cases hv : v = 0
    · have nl : ¬ lckB x = true := fun w => by
        unfold lckB at w
        have w := of_decide_eq_true w
        rcases w.2 with w | w
        · obtain ⟨n, a, b, w⟩ := t3.mpr w
          have := p3.mpr ⟨n, a, b, Or.inl w⟩
          omega
        · obtain ⟨n, a, b, w⟩ := t4.mpr w
          have := p3.mpr ⟨n, a, b, Or.inr w⟩
          omega
      rw [if_pos hv, if_neg nl]
    · have yl : lckB x = true := by
        unfold lckB
        refine decide_eq_true ⟨l0, ?_⟩
        obtain ⟨n, a, b, w⟩ := p3.mp (p1.resolve_left hv)
        rcases w with w | w
        · exact Or.inl (t3.mp ⟨n, a, b, w⟩)
        · exact Or.inr (t4.mp ⟨n, a, b, w⟩)
      rw [if_neg hv, if_pos yl]
def j125H (g : Hp) (T b : Int) : Hp := hput (hput g 122 (9 + T) b) 121 11 (T + 1)
theorem j125_ok {d : Nat} {b : Int} (S : MShp g) (e11 : g 121 11 = T) (e29 : g 121 29 = b) (T0 : 0 ≤ T) (T1 : T < 8) : M_readTree_j125 d 121 g = some (j125H g T b) := by
  have s4 : g 121 4 = 122 := ms_at S (by decide)
  unfold M_readTree_j125
  rw [if_pos kK_121, s4, e11, show w32 (9 + T) = 9 + T by unfold w32; omega, if_pos ⟨by decide, by omega, by rw [show kL 122 = 18 by decide]; omega⟩, e29]
  simp only
  rw [hput_ne1 (show (121 : Int) ≠ 122 by decide), e11, show w32 (T + 1) = T + 1 by unfold w32; omega]
  rfl
theorem j125_fr {b : Int} : MFr N T g (j125H g T b) := fun c s h1 h2 h3 => by
  unfold j125H
  rw [hput_no (by omega), hput_no (by omega)]
theorem j94_bad {d : Nat} {b : Int} (S : MShp g) (bad : g 121 27 ≠ 0) (e11 : g 121 11 = T) (e29 : g 121 29 = b) (T0 : 0 ≤ T) (T1 : T < 8) : M_readTree_j94 d 121 g = some (j125H g T b) := by
  unfold M_readTree_j94
  rw [if_pos kK_121, takes_b bad, ob_some, good_n bad, ob_some, if_pos rfl, j125_ok S e11 e29 T0 T1]
end
