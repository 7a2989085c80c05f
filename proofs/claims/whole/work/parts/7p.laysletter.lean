/-! the reference: a letter is laid -/
def ll3 (s i v : Int) (f : Hp) : Option Hp :=
  if kK (f 121 49) = 21 ∧ (0 : Int) ≤ s ∧ s < kL (f 121 49) then
  if kK (f 121 17) = 21 ∧ (0 : Int) ≤ f (f 121 49) s ∧ f (f 121 49) s < kL (f 121 17) then
  if v = f (f 121 17) (f (f 121 49) s) then
    if kK (f 121 52) = 21 ∧ (0 : Int) ≤ s ∧ s < kL (f 121 52) then
    some (hput f (f 121 52) s i)
    else none
  else some f
  else none
  else none
def ll2 (s i v : Int) (f : Hp) : Option Hp := if kK (f 121 55) = 21 ∧ (0 : Int) ≤ i ∧ i < kL (f 121 55) then ll3 s i v (hput f (f 121 55) i v) else none
theorem laysLetter_eq (s node i : Int) (h : Hp) : M_laysLetter 121 s node i h = if kK 121 = 11 then
  if kK (h 121 49) = 21 ∧ (0 : Int) ≤ s ∧ s < kL (h 121 49) then
  if kK (h 121 4) = 21 ∧ (0 : Int) ≤ h (h 121 49) s ∧ h (h 121 49) s < kL (h 121 4) then
  if kK (h 121 54) = 21 ∧ (0 : Int) ≤ i ∧ i < kL (h 121 54) then
  ll2 s i (w32 (node - (h (h 121 4) (h (h 121 49) s)))) (hput h (h 121 54) i s)
  else none else none else none else none := rfl
section
variable {h h' h0 h1 h2 : Hp} {G : Gm} {ou : Int → Bool} {row : Int → Int} {st st' : St}
theorem F5.c121 (F : F5 h h') {i : Int} (hi : i ≠ 48) : h' 121 i = h 121 i := F 121 i (Or.inr hi) (by decide) (by decide) (by decide) (by decide) (by decide) (by decide) (by decide) (by decide)
theorem F5.low (F : F5 h h') {a : Int} (ha : a < 144) (h1 : a ≠ 121) (i : Int) : h' a i = h a i := F a i (Or.inl h1) (by omega) (by omega) (by omega) (by omega) (by omega) (by omega) (by omega) (by omega)
theorem RepM_5 (Rp : RepM h G ou row) (D : F5 h h') : RepM h' G ou row := by
  have ec : ∀ a i, a < 144 → a ≠ 121 → h' a i = h a i := fun a i x y => D.low x y i
  have e1 : ∀ i, i ≠ 48 → h' 121 i = h 121 i := fun i x => D.c121 x
  obtain ⟨p1, p2, p3, p4, p5, p6, p7, p8, p9, p10⟩ := Rp
  refine ⟨fun q hq => ?_, by rw [e1 _ (by decide)]; exact p2, by rw [e1 _ (by decide)]; exact p3, fun t t0 t1 => by rw [ec 122 _ (by decide) (by decide)]; exact p4 t t0 t1, fun n n0 n1 => ?_, fun t t0 t1 => by rw [ec 132 _ (by decide) (by decide)]; exact p6 t t0 t1, fun t t0 t1 => by rw [e1 _ (by decide)]; exact p7 t t0 t1, fun i i0 i1 => by rw [ec 138 _ (by decide) (by decide)]; exact p8 i i0 i1, ?_, ?_⟩
  · have : ∀ q ∈ msL, q.1 ≠ 48 := by decide
    rw [e1 _ (this q hq)]
    exact p1 q hq
  · rw [ec 123 _ (by decide) (by decide), ec 124 _ (by decide) (by decide), ec 125 _ (by decide) (by decide), ec 126 _ (by decide) (by decide), ec 127 _ (by decide) (by decide), ec 129 _ (by decide) (by decide), ec 130 _ (by decide) (by decide), ec 131 _ (by decide) (by decide)]
    exact p5 n n0 n1
  · intro i j p q i0 ij j8 d
    rw [ec 139 _ (by decide) (by decide)]
    exact p9 i j p q i0 ij j8 d
  · intro i j p q i' j' p' q' i0 ij j8 d i0' ij' j8' d' he
    rw [ec 139 _ (by decide) (by decide), ec 139 _ (by decide) (by decide)] at he
    exact p10 i j p q i' j' p' q' i0 ij j8 d i0' ij' j8' d' he
theorem Memo_5 (D : F5 h h') (e : ∀ i, h' 144 i = h 144 i) (M : Memo h G ou row) : Memo h' G ou row := by
  intro half node i j p q hi
  have : mkey h' half node i j p q = mkey h half node i j p q := by unfold mkey; rw [D.low (show (139 : Int) < 144 by decide) (by decide)]
  rw [this, e]
  exact M half node i j p q hi
theorem RTab_144 (T : RTab h st) (D : D144 h h') : RTab h' st := by
  refine ⟨by rw [D 121 48 (by decide)]; exact T.1, fun s s0 s1 => ?_⟩
  rw [D 148 _ (by decide), D 149 _ (by decide), D 150 _ (by decide)]
  have := T.2 s s0 s1
  exact ⟨this.1, this.2.1, this.2.2.1, fun n a b => by rw [D 152 _ (by decide)]; exact this.2.2.2 n a b⟩
theorem LK_144 (D : D144 h h') : LK h h' st st (fun _ => False) :=
  ⟨D.f5, fun n _ => ⟨D 153 n (by decide), D 154 n (by decide)⟩, fun _ z => False.elim z, Nat.le_refl _, fun _ _ => rfl, fun s _ s1 => Or.inl ⟨by rw [if_pos s1]; exact D 151 s (by decide), fun _ z => False.elim z⟩⟩
theorem LK_new {t into n : Int} (F : F5 h h') (e : ∀ i, h' 144 i = h 144 i ∧ h' 153 i = h 153 i ∧ h' 154 i = h 154 i) (e1 : ∀ s, s ≠ (st.length : Int) → h' 151 s = h 151 s) (e2 : h' 151 (st.length : Int) = -1) : LK h h' st ((t, into, n) :: st) (fun _ => False) := by
  refine ⟨F, fun n _ => (e n).2, fun _ z => False.elim z, by show st.length ≤ st.length + 1; omega, fun s hs => ?_, fun s s0 s1 => Or.inl ⟨?_, fun _ z => False.elim z⟩⟩
  · show (if s = (st.length : Int) then (t, into, n) else sEnt st s) = _
    rw [if_neg (by omega)]
  · by_cases hl : s < (st.length : Int)
    · rw [if_pos hl]; exact e1 s (by omega)
    · have : s < ((st.length + 1 : Nat) : Int) := s1
      rw [if_neg hl, show s = (st.length : Int) by omega]; exact e2
theorem M_laysLetter_ok (W : WF G) (Rp : RepM h G ou row) (S : SShp h) (T : RTab h st) {s node i : Int} (s0 : 0 ≤ s) (s1 : s < (st.length : Int)) (hl : st.length ≤ 128) (n0 : 0 ≤ node) (n1 : node < nN G) (et : (sEnt st s).1 = tr G node) (i0 : 0 ≤ i) (i8 : i < 8) :
    ∃ h', M_laysLetter 121 s node i h = some h' ∧ LK h h' st st (fun n => n = i) ∧ (h' 153 i = s ∧ h' 154 i = off G node) ∧ (∀ x, h' 144 x = h 144 x) ∧ RTab h' st := by
  have nt := wf_nt W
  have nn := wf_nn W
  have ht := wf_tr W n0 n1
  have e148 := (T.2 s s0 s1).1
  rw [et] at e148
  have e122 := Rp.2.2.2.1 (tr G node) ht.1 (by omega)
  have c1' : ∀ (f : Hp) (a i v k : Int), a ≠ 121 → hput f a i v 121 k = f 121 k := fun f a i v k ha => hput_ne1 (fun z => ha z.symm)
  have rl := rel_in W n0 n1
  have ew : w32 (node - ft G (tr G node)) = off G node := by unfold off w32; omega
  have y49 : kK 148 = 21 ∧ (0 : Int) ≤ s ∧ s < kL 148 := ⟨kK_148, s0, by rw [kL_148]; omega⟩
  have y4 : kK 122 = 21 ∧ (0 : Int) ≤ tr G node ∧ tr G node < kL 122 := ⟨kK_122, ht.1, by rw [kL_122]; omega⟩
  have y54 : kK 153 = 21 ∧ (0 : Int) ≤ i ∧ i < kL 153 := ⟨kK_153, i0, by rw [kL_153]; omega⟩
  have y55 : kK 154 = 21 ∧ (0 : Int) ≤ i ∧ i < kL 154 := ⟨kK_154, i0, by rw [kL_154]; omega⟩
  have y17 : kK 133 = 21 ∧ (0 : Int) ≤ tr G node ∧ tr G node < kL 133 := ⟨kK_133, ht.1, by rw [kL_133]; omega⟩
  have y52 : kK 151 = 21 ∧ (0 : Int) ≤ s ∧ s < kL 151 := ⟨kK_151, s0, by rw [kL_151]; omega⟩
  rw [laysLetter_eq, if_pos kK_121, ss_at S (show ((49 : Int), (148 : Int)) ∈ ssL by decide), if_pos y49, ms_at Rp.1 (show ((4 : Int), (122 : Int)) ∈ msL by decide), e148, if_pos y4, ss_at S (show ((54 : Int), (153 : Int)) ∈ ssL by decide), if_pos y54, e122, ew]
  unfold ll2
  rw [c1' _ _ _ _ _ (by decide), ss_at S (show ((55 : Int), (154 : Int)) ∈ ssL by decide), if_pos y55]
  generalize hg : hput (hput h 153 i s) 154 i (off G node) = g
  have gn : ∀ a x, a ≠ 153 → a ≠ 154 → g a x = h a x := fun a x x1 x2 => by rw [← hg, hput_ne1 x2, hput_ne1 x1]
  have gi : ∀ a x, x ≠ i → g a x = h a x := fun a x x1 => by rw [← hg, hput_ne2 x1, hput_ne2 x1]
  have g153 : g 153 i = s := by rw [← hg, hput_ne1 (by decide), hput_eq]
  have g154 : g 154 i = off G node := by rw [← hg, hput_eq]
  unfold ll3
  rw [gn 121 49 (by decide) (by decide), ss_at S (show ((49 : Int), (148 : Int)) ∈ ssL by decide), if_pos y49, gn 121 17 (by decide) (by decide), ms_at Rp.1 (show ((17 : Int), (133 : Int)) ∈ msL by decide), gn 148 _ (by decide) (by decide), e148, if_pos y17, gn 133 _ (by decide) (by decide), gn 121 52 (by decide) (by decide), ss_at S (show ((52 : Int), (151 : Int)) ∈ ssL by decide), if_pos y52]
  have done : ∀ f : Hp, (∀ a x, a ≠ 151 → f a x = g a x) → (∀ x, x ≠ s → f 151 x = h 151 x) → ((off G node = h 133 (tr G node) ∧ f 151 s = i) ∨ (off G node ≠ h 133 (tr G node) ∧ f 151 s = h 151 s)) → LK h f st st (fun n => n = i) ∧ (f 153 i = s ∧ f 154 i = off G node) ∧ (∀ x, f 144 x = h 144 x) ∧ RTab f st := by
    intro f f1 f2 f3
    have e3 : f 153 i = s := by rw [f1 _ _ (by decide)]; exact g153
    have e4 : f 154 i = off G node := by rw [f1 _ _ (by decide)]; exact g154
    refine ⟨⟨?_, ?_, ?_, Nat.le_refl _, fun _ _ => rfl, ?_⟩, ⟨e3, e4⟩, fun x => by rw [f1 _ _ (by decide), gn _ _ (by decide) (by decide)], ?_⟩
    · intro a x z1 z2 z3 z4 z5 z6 z7 z8 z9
      rw [f1 _ _ z6, gn _ _ z8 z9]
    · intro n hn
      rw [f1 _ _ (by decide), f1 _ _ (by decide), gi _ _ hn, gi _ _ hn]
      exact ⟨rfl, rfl⟩
    · intro n hn
      subst hn
      rw [e3]
      exact ⟨s0, s1⟩
    · intro s' s0' s1'
      by_cases hs : s' = s
      · subst hs
        rw [et]
        rcases f3 with ⟨q1, q2⟩ | ⟨q1, q2⟩
        · exact Or.inr ⟨i, rfl, e3, by rw [e4, q1], q2⟩
        · refine Or.inl ⟨by rw [if_pos s1', q2], ?_⟩
          intro n hn w
          subst hn
          exact q1 (by rw [← e4]; exact w.2)
      · refine Or.inl ⟨by rw [if_pos s1', f2 _ hs], ?_⟩
        intro n hn w
        subst hn
        exact hs (by rw [← w.1]; exact e3)
    · refine ⟨by rw [f1 _ _ (by decide), gn _ _ (by decide) (by decide)]; exact T.1, fun s' a b => ?_⟩
      rw [f1 148 _ (by decide), gn 148 _ (by decide) (by decide), f1 149 _ (by decide), gn 149 _ (by decide) (by decide), f1 150 _ (by decide), gn 150 _ (by decide) (by decide)]
      have := T.2 s' a b
      exact ⟨this.1, this.2.1, this.2.2.1, fun n x y => by rw [f1 152 _ (by decide), gn 152 _ (by decide) (by decide)]; exact this.2.2.2 n x y⟩
  by_cases hv : off G node = h 133 (tr G node)
  · rw [if_pos hv]
    exact ⟨_, rfl, done _ (fun a x z => hput_ne1 z) (fun x z => by rw [hput_ne2 z, gn _ _ (by decide) (by decide)]) (Or.inl ⟨hv, hput_eq _ _ _ _⟩)⟩
  · rw [if_neg hv]
    exact ⟨_, rfl, done _ (fun a x z => rfl) (fun x z => gn _ _ (by decide) (by decide)) (Or.inr ⟨hv, gn _ _ (by decide) (by decide)⟩)⟩
end
