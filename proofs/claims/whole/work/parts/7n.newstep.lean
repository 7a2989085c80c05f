/-! a new step of the reference -/
section
variable {h : Hp} {st : St}
theorem newStep_loop {g : Hp} (S : SShp g) {L l2 l3 : Int} (L0 : 0 ≤ L) (L1 : L < 128) : ∃ g', loopN (fun q => M_newStep_L41 121 l2 l3 L q.1 q.2) LN (0, g) = some g' ∧ (∀ a i, (a ≠ 152 ∨ i < 12 * L ∨ 12 * L + 12 ≤ i) → g' a i = g a i) ∧ ∀ n, 0 ≤ n → n < 12 → g' 152 (12 * L + n) = -1 := by
  obtain ⟨r, e, p1, p2⟩ := loop_ok (body := fun q => M_newStep_L41 121 l2 l3 L q.1 q.2) (fun s => 0 ≤ s.1 ∧ s.1 ≤ 12 ∧ (∀ a i, (a ≠ 152 ∨ i < 12 * L ∨ 12 * L + 12 ≤ i) → s.2 a i = g a i) ∧ ∀ n, 0 ≤ n → n < s.1 → s.2 152 (12 * L + n) = -1) (fun s => (12 - s.1).toNat) (fun r => (∀ a i, (a ≠ 152 ∨ i < 12 * L ∨ 12 * L + 12 ≤ i) → r a i = g a i) ∧ ∀ n, 0 ≤ n → n < 12 → r 152 (12 * L + n) = -1) (by
    rintro ⟨x, f⟩ ⟨x0, x1, hf, hn⟩
    simp only at x0 x1 hf hn
    have e53 : f 121 53 = 152 := by rw [hf 121 53 (Or.inl (by decide))]; exact ss_at S (by decide)
    simp only
    unfold M_newStep_L41
    by_cases hx : 12 ≤ x
    · right
      rw [if_pos hx]
      exact ⟨_, rfl, hf, fun n n0 n1 => hn n n0 (by omega)⟩
    · left
      have ew : w32 (w32 (12 * L) + x) = 12 * L + x := by
        have : w32 (12 * L) = 12 * L := by unfold w32; omega
        rw [this]; unfold w32; omega
      have yk : kK 152 = 21 ∧ (0 : Int) ≤ 12 * L + x ∧ 12 * L + x < kL 152 := ⟨by decide, by omega, by rw [show kL 152 = 1536 by decide]; omega⟩
      rw [if_neg hx, if_pos kK_121, e53, ew, if_pos yk, show w32 (x + 1) = x + 1 by unfold w32; omega]
      refine ⟨_, rfl, ⟨by simp only; omega, by simp only; omega, ?_, ?_⟩, by simp only; omega⟩
      · intro a i hai
        simp only
        by_cases ha : a = 152
        · rw [hput_ne2 (by omega)]; exact hf a i hai
        · rw [hput_ne1 ha]; exact hf a i hai
      · intro n n0 n1
        simp only at n1 ⊢
        by_cases hnx : n = x
        · rw [hnx, hput_eq]
        · rw [hput_ne2 (by omega)]; exact hn n n0 (by omega)) LN (0, g) ⟨Int.le_refl 0, show (0 : Int) ≤ 12 by decide, fun _ _ _ => rfl, fun n n0 n1 => by simp only at n1; omega⟩ (by unfold LN; simp only; omega)
  exact ⟨r, e, p1, p2⟩
def nsK (l2 l3 L : Int) (f : Hp) : Option (Int × Hp) :=
  if l2 = (-1) then
    M_newStep_j86 121 L f
  else
    if kK (f 121 53) = 21 ∧ (0 : Int) ≤ w32 ((w32 (12 * l2)) + l3) ∧ w32 ((w32 (12 * l2)) + l3) < kL (f 121 53) then
    M_newStep_j86 121 L (hput f (f 121 53) (w32 ((w32 (12 * l2)) + l3)) L)
    else none
def ns5 (l2 l3 L : Int) (f : Hp) : Option (Int × Hp) := ob (loopN (fun q => M_newStep_L41 121 l2 l3 L q.1 q.2) LN (0, f)) (fun e => nsK l2 l3 L e)
def ns4 (l2 l3 L : Int) (f : Hp) : Option (Int × Hp) := if kK (f 121 52) = 21 ∧ (0 : Int) ≤ L ∧ L < kL (f 121 52) then ns5 l2 l3 L (hput f (f 121 52) L (-1)) else none
def ns3 (l2 l3 L : Int) (f : Hp) : Option (Int × Hp) := if kK (f 121 51) = 21 ∧ (0 : Int) ≤ L ∧ L < kL (f 121 51) then ns4 l2 l3 L (hput f (f 121 51) L l3) else none
def ns2 (l2 l3 L : Int) (f : Hp) : Option (Int × Hp) := if kK (f 121 50) = 21 ∧ (0 : Int) ≤ L ∧ L < kL (f 121 50) then ns3 l2 l3 L (hput f (f 121 50) L l2) else none
def ns1 (l1 l2 l3 L : Int) (f : Hp) : Option (Int × Hp) := if kK (f 121 49) = 21 ∧ (0 : Int) ≤ L ∧ L < kL (f 121 49) then ns2 l2 l3 L (hput f (f 121 49) L l1) else none
theorem newStep_eq (t into n : Int) (h : Hp) : M_newStep 121 t into n h = if kK 121 = 11 then ns1 t into n (h 121 48) h else none := rfl
theorem M_newStep_ok (S : SShp h) (T : RTab h st) (F : Fresh st) (hl : st.length < 128) {t into n : Int} (hi : into = -1 ∨ (0 ≤ into ∧ into < st.length ∧ 0 ≤ n ∧ n < 12)) :
    ∃ h', M_newStep 121 t into n h = some ((st.length : Int), h') ∧ F5 h h' ∧ RTab h' ((t, into, n) :: st) ∧ (∀ i, h' 144 i = h 144 i ∧ h' 153 i = h 153 i ∧ h' 154 i = h 154 i) ∧ (∀ s, s ≠ (st.length : Int) → h' 151 s = h 151 s) ∧ h' 151 (st.length : Int) = -1 := by
  have e48 : h 121 48 = st.length := T.1
  have L0 : (0 : Int) ≤ st.length := by omega
  have L1 : (st.length : Int) < 128 := by omega
  have yk : ∀ c, c = 148 ∨ c = 149 ∨ c = 150 ∨ c = 151 → kK c = 21 ∧ (0 : Int) ≤ st.length ∧ (st.length : Int) < kL c := by
    rintro c (rfl | rfl | rfl | rfl)
    · exact ⟨by decide, L0, by rw [show kL 148 = 128 by decide]; exact L1⟩
    · exact ⟨by decide, L0, by rw [show kL 149 = 128 by decide]; exact L1⟩
    · exact ⟨by decide, L0, by rw [show kL 150 = 128 by decide]; exact L1⟩
    · exact ⟨by decide, L0, by rw [show kL 151 = 128 by decide]; exact L1⟩
  have c1' : ∀ (f : Hp) (a i v k : Int), a ≠ 121 → hput f a i v 121 k = f 121 k := fun f a i v k ha => hput_ne1 (fun z => ha z.symm)
  rw [newStep_eq, if_pos kK_121, e48]
  unfold ns1
  rw [ss_at S (show ((49 : Int), (148 : Int)) ∈ ssL by decide), if_pos (yk 148 (by decide))]
  unfold ns2
  rw [c1' _ _ _ _ _ (by decide), ss_at S (show ((50 : Int), (149 : Int)) ∈ ssL by decide), if_pos (yk 149 (by decide))]
  unfold ns3
  rw [c1' _ _ _ _ _ (by decide), c1' _ _ _ _ _ (by decide), ss_at S (show ((51 : Int), (150 : Int)) ∈ ssL by decide), if_pos (yk 150 (by decide))]
  unfold ns4
  rw [c1' _ _ _ _ _ (by decide), c1' _ _ _ _ _ (by decide), c1' _ _ _ _ _ (by decide), ss_at S (show ((52 : Int), (151 : Int)) ∈ ssL by decide), if_pos (yk 151 (by decide))]
  generalize hg : hput (hput (hput (hput h 148 st.length t) 149 st.length into) 150 st.length n) 151 st.length (-1) = g
  have g1 : ∀ k, g 121 k = h 121 k := fun k => by rw [← hg, c1' _ _ _ _ _ (by decide), c1' _ _ _ _ _ (by decide), c1' _ _ _ _ _ (by decide), c1' _ _ _ _ _ (by decide)]
  have gn : ∀ a i, a ≠ 148 → a ≠ 149 → a ≠ 150 → a ≠ 151 → g a i = h a i := fun a i x1 x2 x3 x4 => by rw [← hg, hput_ne1 x4, hput_ne1 x3, hput_ne1 x2, hput_ne1 x1]
  have gs : ∀ a i, i ≠ (st.length : Int) → g a i = h a i := fun a i x => by rw [← hg, hput_ne2 x, hput_ne2 x, hput_ne2 x, hput_ne2 x]
  have g148 : g 148 st.length = t := by rw [← hg, hput_ne1 (by decide), hput_ne1 (by decide), hput_ne1 (by decide), hput_eq]
  have g149 : g 149 st.length = into := by rw [← hg, hput_ne1 (by decide), hput_ne1 (by decide), hput_eq]
  have g150 : g 150 st.length = n := by rw [← hg, hput_ne1 (by decide), hput_eq]
  have g151 : g 151 st.length = -1 := by rw [← hg, hput_eq]
  have Sg : SShp g := fun q hq => by rw [g1]; exact S q hq
  obtain ⟨f, xf, f1, f2⟩ := newStep_loop (l2 := into) (l3 := n) Sg L0 L1
  unfold ns5
  rw [xf, ob_some]
  -- the step is put into the node of its host
  have put : ∃ f', nsK into n st.length f = M_newStep_j86 121 st.length f' ∧ (∀ a i, a ≠ 152 → f' a i = f a i) ∧ ∀ s' n', 0 ≤ s' → s' < (st.length : Int) + 1 → 0 ≤ n' → n' < 12 → f' 152 (12 * s' + n') = if into = s' ∧ n = n' then (st.length : Int) else f 152 (12 * s' + n') := by
    unfold nsK
    rcases hi with hi | ⟨i0, i1, n0, n1⟩
    · rw [if_pos hi]
      exact ⟨f, rfl, fun _ _ _ => rfl, fun s' n' a _ _ _ => by rw [if_neg (by omega)]⟩
    · have ew : w32 (w32 (12 * into) + n) = 12 * into + n := by
        have : w32 (12 * into) = 12 * into := by unfold w32; omega
        rw [this]; unfold w32; omega
      have y2 : kK 152 = 21 ∧ (0 : Int) ≤ 12 * into + n ∧ 12 * into + n < kL 152 := ⟨by decide, by omega, by rw [show kL 152 = 1536 by decide]; omega⟩
      rw [if_neg (by omega), f1 121 53 (Or.inl (by decide)), g1, ss_at S (show ((53 : Int), (152 : Int)) ∈ ssL by decide), ew, if_pos y2]
      refine ⟨_, rfl, fun a i ha => hput_ne1 ha, fun s' n' a b c d => ?_⟩
      by_cases he : into = s' ∧ n = n'
      · rw [if_pos he, ← he.1, ← he.2, hput_eq]
      · rw [if_neg he, hput_ne2 (by omega)]
  obtain ⟨f', x', p1, p2⟩ := put
  rw [x']
  unfold M_newStep_j86
  rw [if_pos kK_121]
  simp only
  have e48' : f' 121 48 = st.length := by rw [p1 121 48 (by decide), f1 121 48 (Or.inl (by decide)), g1, e48]
  rw [e48', show w32 ((st.length : Int) + 1) = st.length + 1 by unfold w32; omega]
  have cc : ∀ a i, a ≠ 121 → hput f' 121 48 (↑st.length + 1) a i = f' a i := fun a i ha => hput_ne1 ha
  have cg : ∀ a i, a ≠ 121 → a ≠ 152 → hput f' 121 48 (↑st.length + 1) a i = g a i := fun a i ha hb => by rw [cc a i ha, p1 a i hb, f1 a i (Or.inl hb)]
  refine ⟨_, rfl, ?_, ⟨?_, ?_⟩, ?_, ?_, ?_⟩
  · intro a i h1 h2 h3 h4 h5 h6 h7 h8 h9
    by_cases ha : a = 121
    · subst ha
      have : i ≠ 48 := h1.elim (fun z => absurd rfl z) id
      rw [hput_ne2 this, p1 121 i (by decide), f1 121 i (Or.inl (by decide)), g1]
    · rw [cg a i ha h7, gn a i h3 h4 h5 h6]
  · rw [hput_eq]; show _ = ((st.length + 1 : Nat) : Int); omega
  · intro s s0 s1
    have s1' : s < (st.length : Int) + 1 := by
      have : s < ((st.length + 1 : Nat) : Int) := s1
      omega
    have hp : ∀ n', 0 ≤ n' → n' < 12 → hput f' 121 48 (↑st.length + 1) 152 (12 * s + n') = sPut ((t, into, n) :: st) s n' := by
      intro n' a b
      rw [cc 152 _ (by decide), p2 s n' s0 s1' a b]
      show _ = if into = s ∧ n = n' then (st.length : Int) else sPut st s n'
      by_cases he : into = s ∧ n = n'
      · rw [if_pos he, if_pos he]
      · rw [if_neg he, if_neg he]
        by_cases hs : s = (st.length : Int)
        · rw [hs, f2 n' a b, F _ _ (Int.le_refl _)]
        · rw [f1 152 _ (Or.inr (Or.inl (by omega))), gn 152 _ (by decide) (by decide) (by decide) (by decide)]
          exact (T.2 s s0 (by omega)).2.2.2 n' a b
    show _ = (if s = (st.length : Int) then (t, into, n) else sEnt st s).1 ∧ _ = (if s = (st.length : Int) then (t, into, n) else sEnt st s).2.1 ∧ _ = (if s = (st.length : Int) then (t, into, n) else sEnt st s).2.2 ∧ _
    rw [cg 148 _ (by decide) (by decide), cg 149 _ (by decide) (by decide), cg 150 _ (by decide) (by decide)]
    by_cases hs : s = (st.length : Int)
    · rw [if_pos hs, hs, g148, g149, g150, ← hs]
      exact ⟨rfl, rfl, rfl, hp⟩
    · rw [if_neg hs, gs _ _ hs, gs _ _ hs, gs _ _ hs]
      have := T.2 s s0 (by omega)
      exact ⟨this.1, this.2.1, this.2.2.1, hp⟩
  · intro i
    rw [cg 144 _ (by decide) (by decide), cg 153 _ (by decide) (by decide), cg 154 _ (by decide) (by decide), gn 144 _ (by decide) (by decide) (by decide) (by decide), gn 153 _ (by decide) (by decide) (by decide) (by decide), gn 154 _ (by decide) (by decide) (by decide) (by decide)]
    exact ⟨rfl, rfl, rfl⟩
  · intro s hs
    rw [cg 151 _ (by decide) (by decide), gs _ _ hs]
  · rw [cg 151 _ (by decide) (by decide), g151]
end
