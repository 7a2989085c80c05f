/-! the class: steps of a way -/
def WyO (w : Int) : Prop := w = 59 ∨ w = 72
theorem WyO_k {w : Int} (o : WyO w) : kK w = 8 ∧ (kK (w + 1) = 21 ∧ kL (w + 1) = 48) ∧ (kK (w + 2) = 21 ∧ kL (w + 2) = 48) ∧ (kK (w + 3) = 21 ∧ kL (w + 3) = 48) ∧ (kK (w + 4) = 21 ∧ kL (w + 4) = 48) ∧ (kK (w + 5) = 21 ∧ kL (w + 5) = 576) := by
  rcases o with rfl | rfl <;> decide
def WyS (h : Hp) (w : Int) : Prop := h w 4 = w + 1 ∧ h w 5 = w + 2 ∧ h w 6 = w + 3 ∧ h w 7 = w + 4 ∧ h w 8 = w + 5
/-- a way's object holds the steps st -/
def XTab (h : Hp) (w : Int) (st : St) : Prop := h w 1 = (st.length : Int) ∧ (∀ s : Int, 0 ≤ s → s < (st.length : Int) → h (w + 1) s = (sEnt st s).1 ∧ h (w + 2) s = (sEnt st s).2.1 ∧ h (w + 3) s = (sEnt st s).2.2 ∧ h (w + 4) s = -1) ∧ ∀ s n : Int, 0 ≤ s → s < 48 → 0 ≤ n → n < 12 → h (w + 5) (12 * s + n) = sPut st s n
def FW (w : Int) (h h' : Hp) : Prop := ∀ c s, (c ≠ w ∨ s ≠ 1) → c ≠ w + 1 → c ≠ w + 2 → c ≠ w + 3 → c ≠ w + 4 → c ≠ w + 5 → h' c s = h c s
theorem FW.rf {w : Int} {h : Hp} : FW w h h := fun _ _ _ _ _ _ _ _ => rfl
theorem FW.tr {w : Int} {a b c : Hp} (x : FW w a b) (y : FW w b c) : FW w a c := fun i s h1 h2 h3 h4 h5 h6 => by rw [y i s h1 h2 h3 h4 h5 h6, x i s h1 h2 h3 h4 h5 h6]
def as5 (w l2 l3 L : Int) (f : Hp) : Option (Int × Hp) :=
  if l2 = (-1) then
    Wy_addStep_j68 w L f
  else
    if kK (f w 8) = 21 ∧ (0 : Int) ≤ w32 ((w32 (l2 * 12)) + l3) ∧ w32 ((w32 (l2 * 12)) + l3) < kL (f w 8) then
    Wy_addStep_j68 w L (hput f (f w 8) (w32 ((w32 (l2 * 12)) + l3)) L)
    else none
def as4 (w l2 l3 L : Int) (f : Hp) : Option (Int × Hp) := if kK (f w 7) = 21 ∧ (0 : Int) ≤ L ∧ L < kL (f w 7) then as5 w l2 l3 L (hput f (f w 7) L ((-1))) else none
def as3 (w l2 l3 L : Int) (f : Hp) : Option (Int × Hp) := if kK (f w 6) = 21 ∧ (0 : Int) ≤ L ∧ L < kL (f w 6) then as4 w l2 l3 L (hput f (f w 6) L l3) else none
def as2 (w l2 l3 L : Int) (f : Hp) : Option (Int × Hp) := if kK (f w 5) = 21 ∧ (0 : Int) ≤ L ∧ L < kL (f w 5) then as3 w l2 l3 L (hput f (f w 5) L l2) else none
def as1 (w l1 l2 l3 L : Int) (f : Hp) : Option (Int × Hp) := if kK (f w 4) = 21 ∧ (0 : Int) ≤ L ∧ L < kL (f w 4) then as2 w l2 l3 L (hput f (f w 4) L l1) else none
theorem addStep_eq (w t into n : Int) (h : Hp) : Wy_addStep w t into n h = if kK w = 8 then if h w 1 < 48 then as1 w t into n (h w 1) h else some (47, h) else none := rfl
section
variable {h h' : Hp} {st : St} {w : Int}
theorem WyS_fw (F : FW w h h') (S : WyS h w) : WyS h' w := by
  have e : ∀ k, k ≠ 1 → h' w k = h w k := fun k hk => F w k (Or.inr hk) (by omega) (by omega) (by omega) (by omega) (by omega)
  unfold WyS at S ⊢
  rw [e 4 (by decide), e 5 (by decide), e 6 (by decide), e 7 (by decide), e 8 (by decide)]
  exact S
theorem Wy_addStep_ok (O : WyO w) (S : WyS h w) (T : XTab h w st) (F : Fresh st) (hl : st.length < 48) {t into n : Int} (hi : into = -1 ∨ (0 ≤ into ∧ into < (st.length : Int) ∧ 0 ≤ n ∧ n < 12)) :
    ∃ h', Wy_addStep w t into n h = some ((st.length : Int), h') ∧ FW w h h' ∧ XTab h' w ((t, into, n) :: st) := by
  obtain ⟨k0, k1, k2, k3, k4, k5⟩ := WyO_k O
  obtain ⟨s4, s5, s6, s7, s8⟩ := S
  have L0 : (0 : Int) ≤ st.length := by omega
  have L1 : (st.length : Int) < 48 := by omega
  have cw : ∀ (f : Hp) (a i v k : Int), a ≠ w → hput f a i v w k = f w k := fun f a i v k ha => hput_ne1 (fun z => ha z.symm)
  rw [addStep_eq, if_pos k0, T.1, if_pos L1]
  unfold as1
  rw [s4, if_pos ⟨k1.1, L0, by rw [k1.2]; exact L1⟩]
  unfold as2
  rw [cw _ _ _ _ _ (by omega), s5, if_pos ⟨k2.1, L0, by rw [k2.2]; exact L1⟩]
  unfold as3
  rw [cw _ _ _ _ _ (by omega), cw _ _ _ _ _ (by omega), s6, if_pos ⟨k3.1, L0, by rw [k3.2]; exact L1⟩]
  unfold as4
  rw [cw _ _ _ _ _ (by omega), cw _ _ _ _ _ (by omega), cw _ _ _ _ _ (by omega), s7, if_pos ⟨k4.1, L0, by rw [k4.2]; exact L1⟩]
  generalize hg : hput (hput (hput (hput h (w + 1) st.length t) (w + 2) st.length into) (w + 3) st.length n) (w + 4) st.length (-1) = g
  have gw : ∀ k, g w k = h w k := fun k => by rw [← hg, cw _ _ _ _ _ (by omega), cw _ _ _ _ _ (by omega), cw _ _ _ _ _ (by omega), cw _ _ _ _ _ (by omega)]
  have gn : ∀ a i, a ≠ w + 1 → a ≠ w + 2 → a ≠ w + 3 → a ≠ w + 4 → g a i = h a i := fun a i x1 x2 x3 x4 => by rw [← hg, hput_ne1 x4, hput_ne1 x3, hput_ne1 x2, hput_ne1 x1]
  have gs : ∀ a i, i ≠ (st.length : Int) → g a i = h a i := fun a i x => by rw [← hg, hput_ne2 x, hput_ne2 x, hput_ne2 x, hput_ne2 x]
  have g1 : g (w + 1) st.length = t := by rw [← hg, hput_ne1 (by omega), hput_ne1 (by omega), hput_ne1 (by omega), hput_eq]
  have g2 : g (w + 2) st.length = into := by rw [← hg, hput_ne1 (by omega), hput_ne1 (by omega), hput_eq]
  have g3 : g (w + 3) st.length = n := by rw [← hg, hput_ne1 (by omega), hput_eq]
  have g4 : g (w + 4) st.length = -1 := by rw [← hg, hput_eq]
  have put : ∃ f', as5 w into n st.length g = Wy_addStep_j68 w st.length f' ∧ (∀ a i, a ≠ w + 5 → f' a i = g a i) ∧ ∀ s' n', 0 ≤ s' → s' < 48 → 0 ≤ n' → n' < 12 → f' (w + 5) (12 * s' + n') = if into = s' ∧ n = n' then (st.length : Int) else g (w + 5) (12 * s' + n') := by
    unfold as5
    rcases hi with hi | ⟨i0, i1, n0, n1⟩
    · rw [if_pos hi]
      exact ⟨g, rfl, fun _ _ _ => rfl, fun s' n' a _ _ _ => by rw [if_neg (by omega)]⟩
    · have ew : w32 (w32 (into * 12) + n) = 12 * into + n := by
        have : w32 (into * 12) = 12 * into := by unfold w32; omega
        rw [this]; unfold w32; omega
      have y2 : kK (w + 5) = 21 ∧ (0 : Int) ≤ 12 * into + n ∧ 12 * into + n < kL (w + 5) := ⟨k5.1, by omega, by rw [k5.2]; omega⟩
      rw [if_neg (by omega), gw, s8, ew, if_pos y2]
      refine ⟨_, rfl, fun a i ha => hput_ne1 ha, fun s' n' a b c d => ?_⟩
      by_cases he : into = s' ∧ n = n'
      · rw [if_pos he, ← he.1, ← he.2, hput_eq]
      · rw [if_neg he, hput_ne2 (by omega)]
  obtain ⟨f', x', p1, p2⟩ := put
  rw [x']
  unfold Wy_addStep_j68
  rw [if_pos k0]
  simp only
  have e1' : f' w 1 = st.length := by rw [p1 w 1 (by omega), gw, T.1]
  rw [e1', show w32 ((st.length : Int) + 1) = st.length + 1 by unfold w32; omega]
  have cg : ∀ a i, a ≠ w → a ≠ w + 5 → hput f' w 1 (↑st.length + 1) a i = g a i := fun a i ha hb => by rw [hput_ne1 ha, p1 a i hb]
  refine ⟨_, rfl, ?_, ⟨?_, ?_, ?_⟩⟩
  · intro a i h1 h2 h3 h4 h5 h6
    by_cases ha : a = w
    · subst ha
      have : i ≠ 1 := h1.elim (fun z => absurd rfl z) id
      rw [hput_ne2 this, p1 _ i (by omega), gw]
    · rw [cg a i ha h6, gn a i h2 h3 h4 h5]
  · rw [hput_eq]; show _ = ((st.length + 1 : Nat) : Int); omega
  · intro s s0 s1
    have s1' : s < (st.length : Int) + 1 := by
      have : s < ((st.length + 1 : Nat) : Int) := s1
      omega
    show _ = (if s = (st.length : Int) then (t, into, n) else sEnt st s).1 ∧ _ = (if s = (st.length : Int) then (t, into, n) else sEnt st s).2.1 ∧ _ = (if s = (st.length : Int) then (t, into, n) else sEnt st s).2.2 ∧ _
    rw [cg (w + 1) _ (by omega) (by omega), cg (w + 2) _ (by omega) (by omega), cg (w + 3) _ (by omega) (by omega), cg (w + 4) _ (by omega) (by omega)]
    by_cases hs : s = (st.length : Int)
    · rw [if_pos hs, hs, g1, g2, g3, g4]
      exact ⟨rfl, rfl, rfl, rfl⟩
    · rw [if_neg hs, gs _ _ hs, gs _ _ hs, gs _ _ hs, gs _ _ hs]
      exact T.2.1 s s0 (by omega)
  · intro s n' s0 s1 a b
    rw [hput_ne1 (by omega), p2 s n' s0 s1 a b, gn _ _ (by omega) (by omega) (by omega) (by omega), T.2.2 s n' s0 s1 a b]
    rfl
theorem fillI_ok {c v : Int} (kc : kK c = 21) (c0 : 0 ≤ kL c) (c1 : kL c < 10000) : ∃ h', JA_fillI c v h = some h' ∧ (∀ a i, a ≠ c → h' a i = h a i) ∧ ∀ i, 0 ≤ i → i < kL c → h' c i = v := by
  obtain ⟨r, e, p1, p2⟩ := loop_ok (body := fun q => JA_fillI_L5 c v (kL c) q.1 q.2) (fun s => 0 ≤ s.1 ∧ s.1 ≤ kL c ∧ (∀ a i, a ≠ c → s.2 a i = h a i) ∧ ∀ i, 0 ≤ i → i < s.1 → s.2 c i = v) (fun s => (kL c - s.1).toNat) (fun r => (∀ a i, a ≠ c → r a i = h a i) ∧ ∀ i, 0 ≤ i → i < kL c → r c i = v) (by
    rintro ⟨x, f⟩ ⟨x0, x1, hf, hn⟩
    simp only at x0 x1 hf hn
    simp only
    unfold JA_fillI_L5
    by_cases hx : kL c ≤ x
    · right
      rw [if_pos hx]
      exact ⟨_, rfl, hf, fun n n0 n1 => hn n n0 (by omega)⟩
    · left
      rw [if_neg hx, if_pos ⟨kc, x0, by omega⟩, show w32 (x + 1) = x + 1 by unfold w32; omega]
      refine ⟨_, rfl, ⟨by simp only; omega, by simp only; omega, ?_, ?_⟩, by simp only; omega⟩
      · intro a i ha
        simp only
        rw [hput_ne1 ha]; exact hf a i ha
      · intro i i0 i1
        simp only at i1 ⊢
        by_cases hix : i = x
        · rw [hix, hput_eq]
        · rw [hput_ne2 hix]; exact hn i i0 (by omega)) LN (0, h) ⟨Int.le_refl 0, c0, fun _ _ _ => rfl, fun n n0 n1 => by simp only at n1; omega⟩ (by unfold LN; simp only; omega)
  unfold JA_fillI
  rw [if_pos kc, e, ob_some]
  exact ⟨r, rfl, p1, p2⟩
theorem Wy_clear_ok (O : WyO w) (S : WyS h w) : ∃ h', Wy_clear w h = some h' ∧ FW w h h' ∧ XTab h' w [] := by
  obtain ⟨k0, k1, k2, k3, k4, k5⟩ := WyO_k O
  obtain ⟨g, e, p1, p2⟩ := fillI_ok (h := hput h w 1 0) (c := w + 5) (v := -1) k5.1 (by rw [k5.2]; decide) (by rw [k5.2]; decide)
  unfold Wy_clear
  rw [if_pos k0]
  simp only
  rw [hput_ne2 (by decide), S.2.2.2.2, e, ob_some]
  refine ⟨g, rfl, ?_, ?_, ?_, ?_⟩
  · intro c s h1 h2 h3 h4 h5 h6
    rw [p1 c s h6]
    rcases h1 with z | z
    · exact hput_ne1 z
    · exact hput_ne2 z
  · rw [p1 w 1 (by omega), hput_eq]; rfl
  · intro s s0 s1
    have : s < ((0 : Nat) : Int) := s1
    omega
  · intro s n s0 s1 n0 n1
    rw [p2 _ (by omega) (by rw [k5.2]; omega)]
    rfl
end
