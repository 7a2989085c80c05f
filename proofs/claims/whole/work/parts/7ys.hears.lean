/-! test: the text is read by the reference -/
def HeE (g : Hp) (tl : Int) (tp : Int → Int) : Prop := (g 121 22 = tl ∧ 0 ≤ tl ∧ tl ≤ 400) ∧ g 121 19 = 135 ∧ g 121 59 = 156 ∧ ∀ i, 0 ≤ i → i < tl → g 135 i = tp i ∧ -128 ≤ tp i ∧ tp i < 128
def HeF (g g' : Hp) : Prop := ∀ c s, (c ≠ 121 ∨ (s ≠ 23 ∧ s ≠ 24 ∧ s ≠ 25 ∧ s ≠ 26 ∧ s ≠ 60 ∧ s ≠ 61)) → c ≠ 156 → g' c s = g c s
def TkF (g g' : Hp) : Prop := ∀ c s, (c ≠ 121 ∨ (s ≠ 23 ∧ s ≠ 24 ∧ s ≠ 25 ∧ s ≠ 26)) → g' c s = g c s
theorem HeF.rf {g : Hp} : HeF g g := fun _ _ _ _ => rfl
theorem HeF.tr {a b c : Hp} (x : HeF a b) (y : HeF b c) : HeF a c := fun i s h1 h2 => by rw [y i s h1 h2, x i s h1 h2]
theorem TkF.he {a b : Hp} (x : TkF a b) : HeF a b := fun i s h1 h2 => x i s (h1.elim Or.inl (fun z => Or.inr (by omega)))
/-- the token that was seen -/
def TkS (g : Hp) (tl : Int) (tp : Int → Int) (P : Int) : Prop := g 121 25 = knA tl tp P ∧ g 121 26 = (nvA tl tp 99999 P).2 ∧ g 121 23 = poA tl tp P
def nt3 (f : Hp) : Option Hp := if f 121 25 = 4 then some (hput f 121 23 (w32 (f 121 23 + 1))) else some f
theorem nt_j34 (s0 : Int) (h : Hp) : M_numberToken_j34 121 s0 121 h = if kK 121 = 11 then if kK 121 = 11 then ob (loopN (fun q => M_numberToken_L42 121 q) LN (hput (hput h 121 25 s0) 121 26 0)) (fun e => nt3 e) else none else none := rfl
def nt1 (f : Hp) : Option Hp := ob (M_see 121 (f 121 23) f) (fun r9 => M_numberToken_j34 121 ((if r9 = (-1) then 0 else (if r9 = 59 then 4 else 5))) 121 f)
theorem nt_eq (h : Hp) : M_numberToken 121 h = if kK 121 = 11 then ob (M_skips 121 h) (fun r1 => nt1 r1) else none := rfl
section
variable {g g' : Hp} {tl : Int} {tp : Int → Int}
theorem HeE_f (E : HeE g tl tp) (F : HeF g g') : HeE g' tl tp := by
  obtain ⟨⟨a, b, c⟩, d, e, f⟩ := E
  refine ⟨⟨by rw [F 121 22 (Or.inr (by decide)) (by decide)]; exact a, b, c⟩, by rw [F 121 19 (Or.inr (by decide)) (by decide)]; exact d, by rw [F 121 59 (Or.inr (by decide)) (by decide)]; exact e, fun i i0 i1 => ?_⟩
  rw [F 135 i (Or.inl (by decide)) (by decide)]
  exact f i i0 i1
theorem see_ok (E : HeE g tl tp) {p : Int} (p0 : 0 ≤ p) : M_see 121 p g = some (tpC tl tp p) := by
  obtain ⟨⟨a, b, c⟩, d, e, f⟩ := E
  unfold M_see tpC
  rw [if_pos kK_121, a]
  by_cases hp : tl ≤ p
  · rw [if_pos hp, if_neg (by omega)]
  · have := f p p0 (by omega)
    rw [if_neg hp, d, if_pos ⟨kK_135, p0, by rw [kL_135]; omega⟩, this.1, andFF this.2.1 this.2.2, if_pos (by omega)]
theorem skips_ok (E : HeE g tl tp) {p : Int} (hp : g 121 23 = p) (p0 : 0 ≤ p) (p1 : p ≤ 402) : ∃ g', M_skips 121 g = some g' ∧ TkF g g' ∧ g' 121 23 = blA tl tp p := by
  have t1 := E.1.2.2
  obtain ⟨r, e, q1, q2⟩ := loop_ok (body := fun q => M_skips_L0 121 q) (fun f => TkF g f ∧ 0 ≤ f 121 23 ∧ blA tl tp (f 121 23) = blA tl tp p ∧ (f 121 23 ≤ tl ∨ f 121 23 = p)) (fun f => (tl - f 121 23).toNat) (fun r => TkF g r ∧ r 121 23 = blA tl tp p) (by
    intro f ⟨fr, x0, xe, xl⟩
    show (∃ s', M_skips_L0 121 f = _ ∧ _) ∨ (∃ r, M_skips_L0 121 f = _ ∧ _)
    have Ef := HeE_f E fr.he
    generalize hx : f 121 23 = x at x0 xe xl
    unfold M_skips_L0
    rw [if_pos kK_121, hx, see_ok Ef x0, ob_some, ob_some]
    have nx : ∀ v, TkF g (hput f 121 23 v) := fun v c s z => by
      rw [← fr c s z]
      rcases z with z | z
      · exact hput_ne1 z
      · exact hput_ne2 z.1
    have adv : x < tl → blA tl tp (x + 1) = blA tl tp x → ∃ s', M_skips_j26 121 f = some (Sum.inl s') ∧ (TkF g s' ∧ 0 ≤ s' 121 23 ∧ blA tl tp (s' 121 23) = blA tl tp p ∧ (s' 121 23 ≤ tl ∨ s' 121 23 = p)) ∧ (tl - s' 121 23).toNat < (tl - x).toNat := by
      intro hl hb
      unfold M_skips_j26
      rw [if_pos kK_121, hx, show w32 (x + 1) = x + 1 by unfold w32; omega]
      exact ⟨_, rfl, ⟨nx _, by rw [hput_eq]; omega, by rw [hput_eq, hb]; exact xe, by rw [hput_eq]; left; omega⟩, by rw [hput_eq]; omega⟩
    by_cases h32 : tpC tl tp x = 32
    · left
      have hl : x < tl := by
        by_cases z : x < tl
        · exact z
        · rw [tpC_out (by omega)] at h32; omega
      have eb := blA_eq (tl := tl) (tp := tp) hl
      rw [if_pos (Or.inl h32)] at eb
      rw [if_pos h32]
      exact adv hl eb.symm
    · rw [if_neg h32]
      by_cases h10 : tpC tl tp x = 10
      · left
        have hl : x < tl := by
          by_cases z : x < tl
          · exact z
          · rw [tpC_out (by omega)] at h10; omega
        have eb := blA_eq (tl := tl) (tp := tp) hl
        rw [if_pos (Or.inr h10)] at eb
        rw [if_pos h10]
        exact adv hl eb.symm
      · right
        rw [if_neg h10]
        refine ⟨f, rfl, fr, ?_⟩
        rw [hx, ← xe]
        by_cases hl : x < tl
        · rw [blA_eq hl, if_neg (by omega)]
        · rw [blA_out (by omega)]) LN g ⟨fun _ _ _ => rfl, by rw [hp]; exact p0, by rw [hp], Or.inr hp⟩ (by unfold LN; rw [hp]; omega)
  unfold M_skips
  rw [e, ob_some, if_pos kK_121]
  refine ⟨_, rfl, fun c s z => ?_, by rw [hput_ne2 (by decide)]; exact q2⟩
  rw [← q1 c s z]
  rcases z with z | z
  · exact hput_ne1 z
  · exact hput_ne2 z.2.1
theorem numberToken_ok (E : HeE g tl tp) {p : Int} (hp : g 121 23 = p) (p0 : 0 ≤ p) (p1 : p ≤ 402) : ∃ g', M_numberToken 121 g = some g' ∧ TkF g g' ∧ TkS g' tl tp (blA tl tp p) := by
  have t0 := E.1.2.1
  have t1 := E.1.2.2
  obtain ⟨g1, x1, F1, e1⟩ := skips_ok E hp p0 p1
  have E1 := HeE_f E F1.he
  have bl := blA_le (tl := tl) (tp := tp) p
  have P1 : blA tl tp p ≤ 402 := by
    by_cases z : p ≤ tl
    · have := bl.2.1 z; omega
    · have := bl.2.2 (by omega); omega
  generalize hP : blA tl tp p = P at e1 bl P1
  have P0 : 0 ≤ P := by omega
  rw [nt_eq, if_pos kK_121, x1, ob_some]
  unfold nt1
  rw [e1, see_ok E1 P0, ob_some, nt_j34, if_pos kK_121, if_pos kK_121]
  generalize hk0 : (if tpC tl tp P = (-1) then (0 : Int) else (if tpC tl tp P = 59 then 4 else 5)) = k0
  generalize hf : hput (hput g1 121 25 k0) 121 26 0 = f
  have Ff : TkF g f := by
    intro c s z
    rw [← F1 c s z, ← hf]
    rcases z with z | z
    · rw [hput_ne1 z, hput_ne1 z]
    · rw [hput_ne2 z.2.2.2, hput_ne2 z.2.2.1]
  have f23 : f 121 23 = P := by rw [← hf, hput_ne2 (by decide), hput_ne2 (by decide)]; exact e1
  have f25 : f 121 25 = k0 := by rw [← hf, hput_ne2 (by decide), hput_eq]
  have f26 : f 121 26 = 0 := by rw [← hf, hput_eq]
  obtain ⟨r, e, q1, q2, q3, q4⟩ := loop_ok (body := fun q => M_numberToken_L42 121 q) (fun m => TkF g m ∧ P ≤ m 121 23 ∧ (m 121 23 ≤ tl ∨ m 121 23 = P) ∧ (0 ≤ m 121 26 ∧ m 121 26 ≤ 99999) ∧ nvN tl tp 99999 (tl - m 121 23).toNat (m 121 23) (m 121 26) = nvA tl tp 99999 P ∧ ((m 121 23 = P ∧ m 121 25 = k0) ∨ (isD (tpC tl tp P) = true ∧ m 121 25 = 6))) (fun m => (tl - m 121 23).toNat) (fun r => TkF g r ∧ r 121 23 = (nvA tl tp 99999 P).1 ∧ r 121 26 = (nvA tl tp 99999 P).2 ∧ r 121 25 = if isD (tpC tl tp P) then 6 else k0) (by
    intro m ⟨fr, x0, xl, vr, ve, st⟩
    show (∃ s', M_numberToken_L42 121 m = _ ∧ _) ∨ (∃ r, M_numberToken_L42 121 m = _ ∧ _)
    have Em := HeE_f E fr.he
    generalize hx : m 121 23 = x at x0 xl ve st
    generalize ha : m 121 26 = a at vr ve
    unfold M_numberToken_L42
    rw [if_pos kK_121, hx, see_ok Em (by omega), ob_some, M_in_ok, ob_some, ob_some, ha]
    by_cases hd : isD (tpC tl tp x) = true
    · left
      have hc : 48 ≤ tpC tl tp x ∧ tpC tl tp x ≤ 57 := of_decide_eq_true hd
      have hl : x < tl := by
        by_cases z : x < tl
        · exact z
        · rw [tpC_out (by omega)] at hc; omega
      have a1 : w32 (10 * a) = 10 * a := by unfold w32; omega
      have a2 : w32 (10 * a + tpC tl tp x) = 10 * a + tpC tl tp x := by unfold w32; omega
      have a3 : w32 (10 * a + tpC tl tp x - 48) = 10 * a + tpC tl tp x - 48 := by unfold w32; omega
      rw [if_pos (show 48 ≤ tpC tl tp x ∧ tpC tl tp x ≤ 57 from hc), if_neg (by decide), a1, a2, a3]
      simp only
      rw [hput_ne2 (show (23 : Int) ≠ 26 by decide), hx, show w32 (x + 1) = x + 1 by unfold w32; omega]
      obtain ⟨k, hk⟩ : ∃ k : Nat, (tl - x).toNat = k + 1 := ⟨(tl - x - 1).toNat, by omega⟩
      refine ⟨_, rfl, ⟨?_, ?_, ?_, ?_, ?_, ?_⟩, ?_⟩
      · intro c s z
        rw [← fr c s z]
        rcases z with z | z
        · rw [hput_ne1 z, hput_ne1 z, hput_ne1 z]
        · rw [hput_ne2 z.2.2.1, hput_ne2 z.1, hput_ne2 z.2.2.2]
      · rw [hput_ne2 (by decide), hput_eq]; omega
      · rw [hput_ne2 (by decide), hput_eq]; left; omega
      · rw [hput_ne2 (by decide), hput_ne2 (by decide), hput_eq]; omega
      · rw [hput_ne2 (show (23 : Int) ≠ 25 by decide), hput_eq, hput_ne2 (show (26 : Int) ≠ 25 by decide), hput_ne2 (show (26 : Int) ≠ 23 by decide), hput_eq, ← ve, hk, show (tl - (x + 1)).toNat = k by omega]
        show _ = (if isD (tpC tl tp x) then nvN tl tp 99999 k (x + 1) (min 99999 (10 * a + tpC tl tp x - 48)) else (x, a))
        rw [if_pos hd]
      · right
        rw [hput_eq]
        refine ⟨?_, rfl⟩
        rcases st with ⟨s1, -⟩ | ⟨s1, -⟩
        · rw [← s1]; exact hd
        · exact s1
      · rw [hput_ne2 (by decide), hput_eq]; omega
    · right
      have hc : ¬ (48 ≤ tpC tl tp x ∧ tpC tl tp x ≤ 57) := fun z => hd (decide_eq_true z)
      rw [if_neg hc, if_pos rfl]
      have en : nvN tl tp 99999 (tl - x).toNat x a = (x, a) := by
        cases hk : (tl - x).toNat with
        | zero => rfl
        | succ k =>
          show (if isD (tpC tl tp x) then _ else (x, a)) = _
          rw [if_neg hd]
      rw [en] at ve
      refine ⟨m, rfl, fr, by rw [hx, ← ve], by rw [ha, ← ve], ?_⟩
      rcases st with ⟨s1, s2⟩ | ⟨s1, s2⟩
      · subst s1
        rw [if_neg hd, s2]
      · rw [if_pos s1, s2]) LN f ⟨Ff, by rw [f23]; exact Int.le_refl _, Or.inr f23, by rw [f26]; decide, by rw [f23, f26]; rfl, Or.inl ⟨f23, f25⟩⟩ (by unfold LN; rw [f23]; omega)
  rw [e, ob_some]
  have kn : r 121 25 = knA tl tp P := by
    rw [q4]
    unfold knA
    by_cases hd : isD (tpC tl tp P) = true
    · rw [if_pos hd, if_pos hd]
    · rw [if_neg hd, if_neg hd, ← hk0]
  have nl := nvN_le (tl := tl) (tp := tp) 99999 (tl - P).toNat P 0
  unfold nt3
  rw [kn]
  by_cases h4 : knA tl tp P = 4
  · have hd : ¬ isD (tpC tl tp P) = true := fun z => by unfold knA at h4; rw [if_pos z] at h4; omega
    have e23 : (nvA tl tp 99999 P).1 = P := by
      unfold nvA
      cases hk : (tl - P).toNat with
      | zero => rfl
      | succ k =>
        show (if isD (tpC tl tp P) then _ else (P, (0 : Int))).1 = _
        rw [if_neg hd]
    rw [if_pos h4, q2, e23, show w32 (P + 1) = P + 1 by unfold w32; omega]
    refine ⟨_, rfl, fun c s z => ?_, by rw [hput_ne2 (by decide)]; exact kn, by rw [hput_ne2 (by decide)]; exact q3, ?_⟩
    · rw [← q1 c s z]
      rcases z with z | z
      · exact hput_ne1 z
      · exact hput_ne2 z.1
    · rw [hput_eq]; unfold poA; rw [if_pos h4]
  · rw [if_neg h4]
    exact ⟨r, rfl, q1, kn, q3, by rw [q2]; unfold poA; rw [if_neg h4]⟩
/-- a number is heard -/
theorem hearsNumber_ok (E : HeE g tl tp) {P b : Int} (T : TkS g tl tp P) (hb : g 121 61 = b) (b01 : b = 0 ∨ b = 1) (P0 : 0 ≤ P) (P1 : P ≤ 402) : ∃ g', M_hearsNumber 121 g = some ((nvA tl tp 99999 P).2, g') ∧ HeF g g' ∧ g' 121 61 = (if b = 1 ∧ knA tl tp P = 6 then 1 else 0) ∧ TkS g' tl tp (blA tl tp (poA tl tp P)) ∧ g' 121 60 = g 121 60 ∧ g' 156 = g 156 := by
  have t0 := E.1.2.1
  have t1 := E.1.2.2
  have nl := nvN_le (tl := tl) (tp := tp) 99999 (tl - P).toNat P 0
  have po : 0 ≤ poA tl tp P ∧ poA tl tp P ≤ 402 := by
    unfold poA
    by_cases h4 : knA tl tp P = 4
    · rw [if_pos h4]
      have : P < tl := by
        by_cases z : P < tl
        · exact z
        · unfold knA at h4
          rw [tpC_out (by omega)] at h4
          rw [if_neg (by decide), if_pos rfl] at h4
          omega
      omega
    · rw [if_neg h4]; unfold nvA; omega
  have fin : ∀ v, (v = 0 ∨ v = 1) → ∃ g', M_hearsNumber_j27 121 (nvA tl tp 99999 P).2 v 121 g = some ((nvA tl tp 99999 P).2, g') ∧ HeF g g' ∧ g' 121 61 = v ∧ TkS g' tl tp (blA tl tp (poA tl tp P)) ∧ g' 121 60 = g 121 60 ∧ g' 156 = g 156 := by
    intro v hv
    have Fh : HeF g (hput g 121 61 v) := fun c s z1 z2 => by
      rcases z1 with z | z
      · exact hput_ne1 z
      · exact hput_ne2 z.2.2.2.2.2
    obtain ⟨g', x, F, t⟩ := numberToken_ok (HeE_f E Fh) (p := poA tl tp P) (by rw [hput_ne2 (by decide)]; exact T.2.2) po.1 po.2
    unfold M_hearsNumber_j27
    rw [if_pos kK_121, if_pos hv]
    simp only
    rw [if_pos kK_121, x, ob_some]
    exact ⟨g', rfl, Fh.tr F.he, by rw [F 121 61 (Or.inr (by decide)), hput_eq], t, by rw [F 121 60 (Or.inr (by decide)), hput_ne2 (by decide)], by funext s; rw [F 156 s (Or.inl (by decide)), hput_ne1 (by decide)]⟩
  unfold M_hearsNumber M_hearsNumber_j26
  rw [if_pos kK_121, hb, T.2.1, T.1]
  obtain ⟨a, xa, pa⟩ := fin 0 (Or.inl rfl)
  obtain ⟨c, xc, pc⟩ := fin 1 (Or.inr rfl)
  by_cases h0 : b = 0
  · rw [if_pos h0, if_neg (by omega)]
    exact ⟨a, xa, pa⟩
  · rw [if_neg h0]
    by_cases h6 : knA tl tp P = 6
    · rw [if_pos h6, if_pos ⟨by omega, h6⟩]
      exact ⟨c, xc, pc⟩
    · rw [if_neg h6, if_neg (fun z => h6 z.2)]
      exact ⟨a, xa, pa⟩
end
