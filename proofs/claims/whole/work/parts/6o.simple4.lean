/-! say, out, marks -/
section
variable {h h' : Hp} {P ob n tl : Int} {G : Gm} {row tp : Int → Int}
theorem isLet {x : Int} (h0 : -128 ≤ x) (h1 : x < 128) : ∃ v, i_and x 255 = v ∧ (97 ≤ v ∧ v ≤ 122 ↔ 97 ≤ x ∧ x ≤ 122) := by
  by_cases hx : 0 ≤ x
  · exact ⟨x, and255 hx (by omega), Iff.rfl⟩
  · refine ⟨_, rfl, ?_⟩
    have : ∀ k : Fin 128, ¬ i_and (-128 + (k.val : Int)) 255 ≤ 122 := by decide +kernel
    have := this ⟨(x + 128).toNat, by omega⟩
    simp only at this
    rw [show -128 + (((x + 128).toNat : Nat) : Int) = x by omega] at this
    omega
theorem X_isLetter_ok (v : Int) : X_isLetter v = some (if 97 ≤ v ∧ v ≤ 122 then 1 else 0) := by
  unfold X_isLetter X_isLetter_j16
  by_cases h0 : v < 97
  · rw [if_pos h0, if_neg (by omega)]
  rw [if_neg h0]
  by_cases h1 : 122 < v
  · rw [if_pos h1, if_neg (by omega)]
  · rw [if_neg h1, if_pos (by omega)]
def sayP (tl : Int) (tp : Int → Int) : Prop := tl ≤ 8 ∧ ∀ i, 0 ≤ i → i < tl → 97 ≤ tp i ∧ tp i ≤ 122
/-- what say changes -/
theorem X_say_ok (S : ShX h) (T : TapX h tl tp) : (sayP tl tp ∧ ∃ h', X_say 0 h = some (tl, h') ∧ h' 1 1 = 0 ∧ LetX h' tl (fun i => tp i - 97) ∧ h' 0 17 = i_and (h 0 17) 31 ∧ (∀ c s, (c ≠ 1 ∨ s ≠ 1) → (c ≠ 5 ∨ s ≠ 1) → c ≠ 6 → (c ≠ 0 ∨ s ≠ 17) → h' c s = h c s)) ∨ (¬ sayP tl tp ∧ ∃ h', X_say 0 h = some (-4, h') ∧ h' 1 1 = 0 ∧ (∀ c s, (c ≠ 1 ∨ s ≠ 1) → h' c s = h c s)) := by
  obtain ⟨t1, t2, t3, t4⟩ := T
  have k0 : kK 0 = 10 := by decide
  have k1 : kK 1 = 0 := by decide
  have k5 : kK 5 = 0 := by decide
  have s00 : h 0 0 = 1 := sx_at S (by decide)
  have s02 : h 0 2 = 5 := sx_at S (by decide)
  have s10 : h 1 0 = 2 := sx_at S (by decide)
  have s50 : h 5 0 = 6 := sx_at S (by decide)
  obtain ⟨r, e, p⟩ := loop_ok (body := fun q => X_say_L20 0 h q.1 q.2) (fun s => 0 ≤ s.2 ∧ s.2 ≤ tl ∧ ((s.1 = 1 ∧ tl ≤ 8 ∧ ∀ i, 0 ≤ i → i < s.2 → 97 ≤ tp i ∧ tp i ≤ 122) ∨ (s.1 = 0 ∧ ¬ sayP tl tp))) (fun s => (tl - s.2).toNat) (fun r => (r = 1 ∧ sayP tl tp) ∨ (r = 0 ∧ ¬ sayP tl tp)) (by
    rintro ⟨g, i⟩ ⟨i0, i1, hg⟩
    simp only at i0 i1 hg
    simp only
    unfold X_say_L20
    rw [if_pos k0, s00, if_pos k1, t1]
    by_cases hi : tl ≤ i
    · right
      refine ⟨g, by rw [if_pos hi], ?_⟩
      rcases hg with ⟨g1, g2, g3⟩ | g2
      · exact Or.inl ⟨g1, g2, fun j j0 j1 => g3 j j0 (by omega)⟩
      · exact Or.inr g2
    · rw [if_neg hi]
      rcases hg with ⟨g1, g2, g3⟩ | ⟨g1, g2⟩
      · left
        subst g1
        obtain ⟨x1, x2, x3⟩ := t4 i i0 (by omega)
        obtain ⟨v, ev, hv⟩ := isLet x2 x3
        have y2 : kK 2 = 20 ∧ (0 : Int) ≤ i ∧ i < kL 2 := ⟨by decide, i0, by rw [show kL 2 = 400 by decide]; omega⟩
        have eb : By_at 1 i h = some v := by
          unfold By_at
          rw [if_neg (by omega), if_pos k1, t1, if_neg (by omega), s10, if_pos y2.1, if_pos y2.2.2, if_pos y2, x1, ev]
        rw [if_neg (by decide), eb, ob_some, X_isLetter_ok, ob_some, show w32 (i + 1) = i + 1 by unfold w32; omega]
        refine ⟨_, rfl, ⟨by simp only; omega, by simp only; omega, ?_⟩, by simp only; omega⟩
        simp only
        by_cases hl : 97 ≤ tp i ∧ tp i ≤ 122
        · left
          rw [if_pos (hv.mpr hl)]
          refine ⟨rfl, g2, fun j j0 j1 => ?_⟩
          by_cases hj : j = i
          · subst hj; exact hl
          · exact g3 j j0 (by omega)
        · right
          rw [if_neg (fun z => hl (hv.mp z))]
          exact ⟨rfl, fun z => hl (z.2 i i0 (by omega))⟩
      · right
        subst g1
        exact ⟨0, by rw [if_pos rfl], Or.inr ⟨rfl, g2⟩⟩) LN ((if 8 < tl then 0 else 1), 0) ⟨Int.le_refl _, t2, by
      simp only
      by_cases h8 : 8 < tl
      · rw [if_pos h8]; exact Or.inr ⟨rfl, fun z => by have := z.1; omega⟩
      · rw [if_neg h8]; exact Or.inl ⟨rfl, by omega, fun j j0 j1 => by omega⟩⟩ (by unfold LN; simp only; omega)
  unfold X_say X_say_j17
  rw [if_pos k0, s00, if_pos k1, t1, e, ob_some, if_pos k0, if_pos k1]
  simp only
  rcases p with ⟨p1, p2⟩ | ⟨p1, p2⟩
  · left
    subst p1
    refine ⟨p2, ?_⟩
    have tl8 := p2.1
    rw [if_neg (by decide), hput_ne1 (by decide), s02, if_pos k5]
    obtain ⟨g, eg, gF, gL, gV⟩ := loop_ok (body := fun q => X_say_L86 0 tl q.1 q.2) (fun s => 0 ≤ s.1 ∧ s.1 ≤ tl ∧ (∀ c k, (c ≠ 1 ∨ k ≠ 1) → (c ≠ 5 ∨ k ≠ 1) → c ≠ 6 → s.2 c k = h c k) ∧ (s.2 5 1 = s.1 ∧ s.2 1 1 = 0) ∧ ∀ i, 0 ≤ i → i < s.1 → s.2 6 i = tp i - 97) (fun s => (tl - s.1).toNat) (fun g => (∀ c k, (c ≠ 1 ∨ k ≠ 1) → (c ≠ 5 ∨ k ≠ 1) → c ≠ 6 → g c k = h c k) ∧ (g 5 1 = tl ∧ g 1 1 = 0) ∧ ∀ i, 0 ≤ i → i < tl → g 6 i = tp i - 97) (by
      rintro ⟨k, g⟩ ⟨k0', k1', hF, hL, hV⟩
      simp only at k0' k1' hF hL hV
      simp only
      unfold X_say_L86
      by_cases hk : tl ≤ k
      · right
        exact ⟨g, by rw [if_pos hk], hF, ⟨by omega, hL.2⟩, fun i i0 i1 => hV i i0 (by omega)⟩
      · left
        have lt := p2.2 k k0' (by omega)
        have g00 : g 0 0 = 1 := by rw [hF 0 0 (by decide) (by decide) (by decide)]; exact s00
        have g02 : g 0 2 = 5 := by rw [hF 0 2 (by decide) (by decide) (by decide)]; exact s02
        have g10 : g 1 0 = 2 := by rw [hF 1 0 (by decide) (by decide) (by decide)]; exact s10
        have g50 : g 5 0 = 6 := by rw [hF 5 0 (by decide) (by decide) (by decide)]; exact s50
        have gk : g 2 k = tp k := by rw [hF 2 k (Or.inl (by decide)) (Or.inl (by decide)) (by decide)]; exact (t4 k k0' (by omega)).1
        have y2 : kK 2 = 20 ∧ (0 : Int) ≤ k ∧ k < kL 2 := ⟨by decide, k0', by rw [show kL 2 = 400 by decide]; omega⟩
        have y6 : kK 6 = 20 ∧ (0 : Int) ≤ k ∧ k < kL 6 := ⟨by decide, k0', by rw [show kL 6 = 8 by decide]; omega⟩
        refine ⟨(k + 1, hput (hput g 6 k (tp k - 97)) 5 1 (k + 1)), ?_, ⟨by simp only; omega, by simp only; omega, ?_, ⟨by simp only; rw [hput_eq], by simp only; rw [hput_ne1 (by decide), hput_ne1 (by decide)]; exact hL.2⟩, ?_⟩, by simp only; omega⟩
        · unfold By_add
          rw [if_neg hk, if_pos k0, g00, if_pos k1, g10, if_pos y2, g02, if_pos k5, gk, if_pos k5, hL.1, if_neg (by omega), g50, if_pos y6.1, if_neg (by rw [show kL 6 = 8 by decide]; omega), if_pos y6]
          simp only
          rw [hput_ne1 (by decide), hL.1, ob_some, show w32 (k + 1) = k + 1 by unfold w32; omega, show w8 (w8 (w32 (tp k - 97))) = tp k - 97 by unfold w8 w32; omega]
        · intro c s a b d
          simp only
          rw [show ∀ (g : Hp) (x : Int), hput g 5 1 x c s = g c s from fun g x => by
            rcases b with b | b
            · exact hput_ne1 b
            · exact hput_ne2 b, hput_ne1 d]
          exact hF c s a b d
        · intro i i0 i1
          simp only at i1 ⊢
          rw [hput_ne1 (by decide)]
          by_cases hi : i = k
          · subst hi; rw [hput_eq]
          · rw [hput_ne2 hi]; exact hV i i0 (by omega)) LN (0, hput (hput h 1 1 0) 5 1 0) ⟨Int.le_refl _, t2, fun c s a b d => by
        simp only
        rw [show ∀ (g : Hp) (x : Int), hput g 5 1 x c s = g c s from fun g x => by
          rcases b with b | b
          · exact hput_ne1 b
          · exact hput_ne2 b, show ∀ (g : Hp) (x : Int), hput g 1 1 x c s = g c s from fun g x => by
          rcases a with b | b
          · exact hput_ne1 b
          · exact hput_ne2 b], ⟨by simp only; rw [hput_eq], by simp only; rw [hput_ne1 (by decide), hput_eq]⟩, fun i i0 i1 => by simp only at i1; omega⟩ (by unfold LN; simp only; omega)
    rw [eg, ob_some]
    refine ⟨_, rfl, ?_, ⟨?_, ?_, t2, tl8, ?_⟩, ?_, ?_⟩
    · rw [hput_ne1 (by decide)]; exact gL.2
    · rw [hput_ne1 (by decide), gF 5 0 (by decide) (by decide) (by decide)]; exact s50
    · rw [hput_ne1 (by decide)]; exact gL.1
    · intro i i0 i1
      rw [hput_ne1 (by decide)]
      have := p2.2 i i0 i1
      exact ⟨gV i i0 i1, by show 0 ≤ tp i - 97; omega, by show tp i - 97 < 26; omega⟩
    · rw [hput_eq, gF 0 17 (by decide) (by decide) (by decide)]
    · intro c s a b d f
      rw [show ∀ (g : Hp) (x : Int), hput g 0 17 x c s = g c s from fun g x => by
        rcases f with b | b
        · exact hput_ne1 b
        · exact hput_ne2 b]
      exact gF c s a b d
  · right
    subst p1
    refine ⟨p2, ?_⟩
    rw [if_pos rfl]
    refine ⟨_, rfl, by rw [hput_eq], fun c s hc => ?_⟩
    rcases hc with hc | hc
    · exact hput_ne1 hc
    · exact hput_ne2 hc
theorem M_say_ok (S : MShp h) (T : TapM h tl tp) (t2 : 0 ≤ tl) (t3 : tl ≤ 400) : (sayP tl tp ∧ ∃ h', M_say 121 h = some (tl, h') ∧ h' 121 20 = 0 ∧ LetM h' tl (fun i => tp i - 97) ∧ (∀ c s, (c ≠ 121 ∨ (s ≠ 20 ∧ s ≠ 32)) → c ≠ 137 → h' c s = h c s)) ∨ (¬ sayP tl tp ∧ ∃ h', M_say 121 h = some (-4, h') ∧ h' 121 20 = 0 ∧ (∀ c s, (c ≠ 121 ∨ s ≠ 20) → h' c s = h c s)) := by
  have s19 : h 121 19 = 135 := ms_at S (by decide)
  have s31 : h 121 31 = 137 := ms_at S (by decide)
  unfold M_say
  rw [if_pos kK_121, T.1]
  simp only
  have fr1 : ∀ c s, (c ≠ 121 ∨ s ≠ 20) → hput h 121 20 0 c s = h c s := fun c s hc => by
    rcases hc with hc | hc
    · exact hput_ne1 hc
    · exact hput_ne2 hc
  by_cases h8 : tl ≤ 8
  · rw [if_pos h8]
    obtain ⟨r, e, p⟩ := loop_ok (body := fun q => M_say_L21 121 tl (hput h 121 20 0) q) (fun s => 0 ≤ s ∧ s ≤ tl ∧ ∀ i, 0 ≤ i → i < s → 97 ≤ tp i ∧ tp i ≤ 122) (fun s => (tl - s).toNat) (fun r => match r with
      | .inl _ => ¬ sayP tl tp
      | .inr _ => sayP tl tp) (by
      rintro i ⟨i0, i1, hg⟩
      unfold M_say_L21
      by_cases hi : tl ≤ i
      · right
        exact ⟨.inr (), by rw [if_pos hi], h8, fun j j0 j1 => hg j j0 (by omega)⟩
      · have y5 : kK 135 = 20 ∧ (0 : Int) ≤ i ∧ i < kL 135 := ⟨by decide, i0, by rw [show kL 135 = 400 by decide]; omega⟩
        rw [if_neg hi, if_pos kK_121, fr1 121 19 (by decide), s19, if_pos y5, fr1 135 i (Or.inl (by decide)), T.2 i i0 (by omega)]
        unfold M_in M_in_j17
        by_cases a : tp i < 97
        · right
          refine ⟨.inl (), by rw [if_pos a, ob_some, if_pos rfl], fun z => ?_⟩
          have := z.2 i i0 (by omega); omega
        · by_cases b : 122 < tp i
          · right
            refine ⟨.inl (), by rw [if_neg a, if_pos b, ob_some, if_pos rfl], fun z => ?_⟩
            have := z.2 i i0 (by omega); omega
          · left
            refine ⟨i + 1, by rw [if_neg a, if_neg b, ob_some, if_neg (by decide), show w32 (i + 1) = i + 1 by unfold w32; omega], ⟨by omega, by omega, fun j j0 j1 => ?_⟩, by omega⟩
            by_cases hj : j = i
            · subst hj; omega
            · exact hg j j0 (by omega)) LN 0 ⟨Int.le_refl _, t2, fun j j0 j1 => by omega⟩ (by unfold LN; omega)
    rw [e, ob_some]
    cases r with
    | inl v =>
      simp only at p ⊢
      exact Or.inr ⟨p, _, rfl, by rw [hput_eq], fr1⟩
    | inr v =>
      simp only at p ⊢
      left
      refine ⟨p, ?_⟩
      have fr2 : ∀ c s, (c ≠ 121 ∨ (s ≠ 20 ∧ s ≠ 32)) → hput (hput h 121 20 0) 121 32 tl c s = h c s := fun c s hc => by
        rcases hc with hc | hc
        · rw [hput_ne1 hc, hput_ne1 hc]
        · rw [hput_ne2 hc.2, hput_ne2 hc.1]
      obtain ⟨g, eg, gF, gV⟩ := loop_ok (body := fun q => M_say_L61 121 tl q.1 q.2) (fun s => 0 ≤ s.1 ∧ s.1 ≤ tl ∧ (∀ c k, c ≠ 137 → s.2 c k = hput (hput h 121 20 0) 121 32 tl c k) ∧ ∀ i, 0 ≤ i → i < s.1 → s.2 137 i = tp i - 97) (fun s => (tl - s.1).toNat) (fun g => (∀ c k, c ≠ 137 → g c k = hput (hput h 121 20 0) 121 32 tl c k) ∧ ∀ i, 0 ≤ i → i < tl → g 137 i = tp i - 97) (by
        rintro ⟨k, g⟩ ⟨k0, k1, hF, hV⟩
        simp only at k0 k1 hF hV
        simp only
        unfold M_say_L61
        by_cases hk : tl ≤ k
        · right
          exact ⟨g, by rw [if_pos hk], hF, fun i i0 i1 => hV i i0 (by omega)⟩
        · left
          have lt := p.2 k k0 (by omega)
          have g19 : g 121 19 = 135 := by rw [hF 121 19 (by decide), fr2 121 19 (by decide)]; exact s19
          have g31 : g 121 31 = 137 := by rw [hF 121 31 (by decide), fr2 121 31 (by decide)]; exact s31
          have gk : g 135 k = tp k := by rw [hF 135 k (by decide), fr2 135 k (Or.inl (by decide))]; exact T.2 k k0 (by omega)
          have y5 : kK 135 = 20 ∧ (0 : Int) ≤ k ∧ k < kL 135 := ⟨by decide, k0, by rw [show kL 135 = 400 by decide]; omega⟩
          have y7 : kK 137 = 21 ∧ (0 : Int) ≤ k ∧ k < kL 137 := ⟨by decide, k0, by rw [show kL 137 = 8 by decide]; omega⟩
          refine ⟨(k + 1, hput g 137 k (tp k - 97)), ?_, ⟨by simp only; omega, by simp only; omega, ?_, ?_⟩, by simp only; omega⟩
          · rw [if_neg hk, if_pos kK_121, g19, if_pos y5, g31, if_pos y7, gk, show w32 (k + 1) = k + 1 by unfold w32; omega, show w32 (tp k - 97) = tp k - 97 by unfold w32; omega]
          · intro c s hc
            simp only
            rw [hput_ne1 hc]; exact hF c s hc
          · intro i i0 i1
            simp only at i1 ⊢
            by_cases hi : i = k
            · subst hi; rw [hput_eq]
            · rw [hput_ne2 hi]; exact hV i i0 (by omega)) LN (0, hput (hput h 121 20 0) 121 32 tl) ⟨Int.le_refl _, t2, fun _ _ _ => rfl, fun i i0 i1 => by simp only at i1; omega⟩ (by unfold LN; simp only; omega)
      rw [eg, ob_some]
      refine ⟨g, rfl, ?_, ⟨?_, t2, h8, ?_⟩, ?_⟩
      · rw [gF 121 20 (by decide), hput_ne2 (by decide), hput_eq]
      · rw [gF 121 32 (by decide), hput_eq]
      · intro i i0 i1
        have := p.2 i i0 i1
        exact ⟨gV i i0 i1, by show 0 ≤ tp i - 97; omega, by show tp i - 97 < 26; omega⟩
      · intro c s a b
        rw [gF c s b, fr2 c s a]
  · rw [if_neg h8]
    exact Or.inr ⟨fun z => h8 z.1, _, rfl, by rw [hput_eq], fr1⟩
/-! out -/
def outV (ob t on : Int) : Int := if on = 1 then i_or ob (i_shl 1 t) else i_and ob (i_xor (i_shl 1 t) (-1))
theorem outV0 : ∀ x : Fin 256, ∀ t : Fin 8, (bit ((x.val : Nat) : Int) ((t.val : Nat) : Int) = 1 → outV x.val t.val 1 = x.val ∧ i_xor x.val (i_shl 1 t.val) = outV x.val t.val 0 ∧ outV x.val t.val 0 ≠ x.val) ∧ (bit ((x.val : Nat) : Int) ((t.val : Nat) : Int) = 0 → outV x.val t.val 0 = x.val ∧ i_xor x.val (i_shl 1 t.val) = outV x.val t.val 1 ∧ outV x.val t.val 1 ≠ x.val) ∧ 0 ≤ outV x.val t.val 0 ∧ outV x.val t.val 0 < 256 ∧ 0 ≤ outV x.val t.val 1 ∧ outV x.val t.val 1 < 256 := by decide +kernel
theorem outV_ok {t : Int} (o0 : 0 ≤ ob) (o1 : ob < 256) (t0 : 0 ≤ t) (t1 : t < 8) {on : Int} (hon : on = 0 ∨ on = 1) : (bit ob t = on → outV ob t on = ob) ∧ (bit ob t ≠ on → i_xor ob (i_shl 1 t) = outV ob t on ∧ outV ob t on ≠ ob) ∧ 0 ≤ outV ob t on ∧ outV ob t on < 256 := by
  have q := outV0 ⟨ob.toNat, by omega⟩ ⟨t.toNat, by omega⟩
  simp only at q
  rw [show ((ob.toNat : Nat) : Int) = ob by omega, show ((t.toNat : Nat) : Int) = t by omega] at q
  obtain ⟨q1, q2, q3, q4, q5, q6⟩ := q
  rcases hon with rfl | rfl
  · refine ⟨fun z => (q2 z).1, fun z => ?_, q3, q4⟩
    rcases bit_01 o0 o1 t0 t1 with w | w
    · exact absurd w z
    · exact (q1 w).2
  · refine ⟨fun z => (q1 z).1, fun z => ?_, q5, q6⟩
    rcases bit_01 o0 o1 t0 t1 with w | w
    · exact (q2 w).2
    · exact absurd w z
theorem X_out_ok (B : BX h P G ob n row) (t on : Int) : ((0 ≤ t ∧ t < nT G ∧ 0 ≤ on ∧ on ≤ 1) ∧ ((outV ob t on = ob ∧ X_out 0 t on h = some (0, h)) ∨ (outV ob t on ≠ ob ∧ X_out 0 t on h = some (1, hput (hput h P 4 (outV ob t on)) 0 17 0)))) ∨ (¬ (0 ≤ t ∧ t < nT G ∧ 0 ≤ on ∧ on ≤ 1) ∧ X_out 0 t on h = some (-2, h)) := by
  have o := bx_ob B
  have nt := wf_nt (bx_W B)
  unfold X_out
  rw [if_pos (show kK 0 = 10 by decide), bx_15 B, if_pos (bx_kP B), Gr_hasTree_ok B, ob_some, o.1]
  by_cases ht : 0 ≤ t ∧ t < nT G
  · rw [if_pos ht, if_neg (by decide)]
    by_cases h0 : on < 0
    · right
      rw [if_pos h0]
      exact ⟨by omega, rfl⟩
    rw [if_neg h0]
    by_cases h1 : on ≤ 1
    · left
      refine ⟨by omega, ?_⟩
      have q := outV_ok (t := t) o.2.1 o.2.2 ht.1 (by omega) (on := on) (by omega)
      rw [if_pos h1]
      by_cases hb : bit ob t = on
      · left
        exact ⟨q.1 hb, by unfold bit at hb; rw [if_pos hb]⟩
      · right
        refine ⟨(q.2.1 hb).2, ?_⟩
        unfold bit at hb
        rw [if_neg hb, (q.2.1 hb).1]
    · right
      rw [if_neg h1]
      exact ⟨by omega, rfl⟩
  · right
    rw [if_neg ht, if_pos rfl]
    exact ⟨by omega, rfl⟩
theorem M_out_ok (B : BM h G ob n row) (t on : Int) : ((0 ≤ t ∧ t < nT G ∧ 0 ≤ on ∧ on ≤ 1) ∧ M_out 121 t on h = some (if outV ob t on = ob then 0 else 1, hput h 121 3 (outV ob t on))) ∨ (¬ (0 ≤ t ∧ t < nT G ∧ 0 ≤ on ∧ on ≤ 1) ∧ M_out 121 t on h = some (-2, h)) := by
  have e3 : h 121 3 = ob := (bm_X B).2.2.1
  unfold M_out M_in M_in_j17
  rw [if_pos kK_121, M_isTree_ok B, ob_some]
  by_cases ht : 0 ≤ t ∧ t < nT G
  · rw [if_pos ht, if_neg (by decide)]
    by_cases h0 : on < 0
    · right
      rw [if_pos h0, ob_some, if_pos rfl]
      exact ⟨by omega, rfl⟩
    rw [if_neg h0]
    by_cases h1 : 1 < on
    · right
      rw [if_pos h1, ob_some, if_pos rfl]
      exact ⟨by omega, rfl⟩
    · left
      refine ⟨by omega, ?_⟩
      rw [if_neg h1, ob_some, if_neg (by decide), e3]
      unfold M_out_j53
      rw [if_pos kK_121]
      simp only
      rw [if_pos kK_121, hput_eq]
      have : (if on = 1 then i_or ob (i_shl 1 t) else i_and ob (i_xor (i_shl 1 t) (-1))) = outV ob t on := rfl
      rw [this]
      congr 2
      by_cases z : outV ob t on = ob
      · rw [if_pos z, if_pos z.symm]
      · rw [if_neg z, if_neg (fun w => z w.symm)]
  · right
    rw [if_neg ht, if_pos rfl]
    exact ⟨by omega, rfl⟩
end
