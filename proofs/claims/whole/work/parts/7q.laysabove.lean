/-! the reference: loops that find the guest of a way -/
section
variable {h h' h0 h1 h2 : Hp} {G : Gm} {ou : Int → Bool} {row : Int → Int} {st st' : St} {e : Nat} {R : Nat → List Int → Hp → Option (Hp)}
def J4 (h : Hp) (G : Gm) (ou : Int → Bool) (row : Int → Int) (g : Hp) : Prop := D144 h g ∧ Memo g G ou row
theorem L127_step (W : WF G) (he : 2 ≤ e) {s node i j p q t a c : Int} (hi : itm G 1 node i j p q) (t0 : 0 ≤ t) (t1 : t < nT G) (hs : sp G (ft G t) = 1) (a0 : i ≤ a) (a1 : a ≤ (if p = -1 then j else p)) (c0 : (if p = -1 then a else q) ≤ c) (c1' : c ≤ j) (hB : fr G 1 node i j p q ≤ (e : Int)) (Rp : RepM h G ou row) {g : Hp} (J : J4 h G ou row g) {κ : Nat} (hκ : κ ≤ 1000000000000000) :
    ∃ g', J4 h G ou row g' ∧ (fC G ou row node i j p q t a c ≤ κ → M_laysAbove_L127 R (e + 1) 121 s node i j p q t a κ c g = some (.inl (((κ - fC G ou row node i j p q t a c : Nat) : Int), c + 1, g'))) ∧ (κ < fC G ou row node i j p q t a c → M_laysAbove_L127 R (e + 1) 121 s node i j p q t a κ c g = some (.inr (.inl ((κ : Int), c, g')))) := by
  have j8 := hi.2.2.2.2.2.1
  have sp' := itm_span hi
  have Rg := RepM_144 Rp J.1
  obtain ⟨g1, x5, D1, M1⟩ := around_ok (e := e) (B := (e : Int) - 4) W he (waysOf_spec W e) hi t0 t1 hs a0 a1 c0 c1' (by omega) Rg J.2
  refine ⟨g1, ⟨J.1.tr D1, M1⟩, ?_, ?_⟩
  · intro hf
    unfold M_laysAbove_L127 M_waysAround
    rw [if_neg (by omega), if_pos kK_121, x5, ob_some]
    dsimp only
    have hf' : wAround G (wW G ou row) node t a c i j p q ≤ κ := hf
    unfold fC
    rw [if_pos ((cap_le hκ).mpr hf'), cap_sub hκ hf', show w32 (c + 1) = c + 1 by unfold w32; omega]
  · intro hf
    unfold M_laysAbove_L127 M_waysAround
    rw [if_neg (by omega), if_pos kK_121, x5, ob_some]
    dsimp only
    have hf' : κ < wAround G (wW G ou row) node t a c i j p q := hf
    rw [if_neg (fun z => absurd ((cap_le hκ).mp z) (by omega))]
theorem L127_find (W : WF G) (he : 2 ≤ e) {s node i j p q t a c : Int} (hi : itm G 1 node i j p q) (t0 : 0 ≤ t) (t1 : t < nT G) (hs : sp G (ft G t) = 1) (a0 : i ≤ a) (a1 : a ≤ (if p = -1 then j else p)) (hB : fr G 1 node i j p q ≤ (e : Int)) (Rp : RepM h G ou row) {g : Hp} (J : J4 h G ou row g) {k k' : Nat} (hk : k ≤ 1000000000000000) (P : Pick (fC G ou row node i j p q t a) (if p = -1 then a else q) j k c k') :
    ∃ g', J4 h G ou row g' ∧ loopN (fun q' => M_laysAbove_L127 R (e + 1) 121 s node i j p q t a q'.1 q'.2.1 q'.2.2) LN ((k : Int), (if p = -1 then a else q), g) = some (.inl ((k' : Int), c, g')) := by
  obtain ⟨P1, P2, P3, P4⟩ := P
  have sp' := itm_span hi
  have hlo : 0 ≤ (if p = -1 then a else q) := by split <;> omega
  obtain ⟨r, x, g', jg, er⟩ := walk_loop (body := fun q' => M_laysAbove_L127 R (e + 1) 121 s node i j p q t a q'.1 q'.2.1 q'.2.2) (f := fC G ou row node i j p q t a) (lo := if p = -1 then a else q) (y1 := c) (k := k) (J4 h G ou row) (fun r => ∃ g', J4 h G ou row g' ∧ r = .inl ((k' : Int), c, g')) J (by omega) P1 (by omega) (by
    intro y κ g y0 y1 jg hf hκ
    obtain ⟨g', j1, b1, -⟩ := L127_step (R := R) (s := s) W he hi t0 t1 hs a0 a1 y0 (by omega) hB Rp jg (show κ ≤ 1000000000000000 by omega)
    exact ⟨g', b1 hf, j1⟩) (by
    intro g jg
    obtain ⟨g', j1, -, b1⟩ := L127_step (R := R) (s := s) W he hi t0 t1 hs a0 a1 P1 P2 hB Rp jg (show k' ≤ 1000000000000000 by omega)
    rw [show k - sI (fC G ou row node i j p q t a) (if p = -1 then a else q) (c - 1) = k' by omega]
    exact ⟨_, b1 P4, g', j1, rfl⟩)
  exact ⟨g', jg, by rw [x, er]⟩
theorem L127_pass (W : WF G) (he : 2 ≤ e) {s node i j p q t a : Int} (hi : itm G 1 node i j p q) (t0 : 0 ≤ t) (t1 : t < nT G) (hs : sp G (ft G t) = 1) (a0 : i ≤ a) (a1 : a ≤ (if p = -1 then j else p)) (hB : fr G 1 node i j p q ≤ (e : Int)) (Rp : RepM h G ou row) {g : Hp} (J : J4 h G ou row g) {k : Nat} (hk : k ≤ 1000000000000000) (P : fA G ou row node i j p q t a ≤ k) :
    ∃ g', J4 h G ou row g' ∧ loopN (fun q' => M_laysAbove_L127 R (e + 1) 121 s node i j p q t a q'.1 q'.2.1 q'.2.2) LN ((k : Int), (if p = -1 then a else q), g) = some (.inr (((k - fA G ou row node i j p q t a : Nat) : Int), g')) := by
  have sp' := itm_span hi
  have hlo : 0 ≤ (if p = -1 then a else q) ∧ (if p = -1 then a else q) ≤ j + 1 := by
    split
    · rename_i z; rw [if_pos z] at a1; omega
    · omega
  unfold fA at P ⊢
  obtain ⟨r, x, g', jg, er⟩ := walk_loop (body := fun q' => M_laysAbove_L127 R (e + 1) 121 s node i j p q t a q'.1 q'.2.1 q'.2.2) (f := fC G ou row node i j p q t a) (lo := if p = -1 then a else q) (y1 := j + 1) (k := k) (J4 h G ou row) (fun r => ∃ g', J4 h G ou row g' ∧ r = .inr (((k - sI (fC G ou row node i j p q t a) (if p = -1 then a else q) j : Nat) : Int), g')) J (by omega) hlo.2 (by rw [show j + 1 - 1 = j by omega]; exact P) (by
    intro y κ g y0 y1 jg hf hκ
    obtain ⟨g', j1, b1, -⟩ := L127_step (R := R) (s := s) W he hi t0 t1 hs a0 a1 y0 (by omega) hB Rp jg (show κ ≤ 1000000000000000 by omega)
    exact ⟨g', b1 hf, j1⟩) (by
    intro g jg
    refine ⟨_, ?_, g, jg, rfl⟩
    show M_laysAbove_L127 R (e + 1) 121 s node i j p q t a _ (j + 1) g = _
    unfold M_laysAbove_L127
    rw [if_pos (by omega), show j + 1 - 1 = j by omega])
  exact ⟨g', jg, by rw [x, er]⟩
theorem L94_find (W : WF G) (he : 2 ≤ e) {s node i j p q t a c : Int} (hi : itm G 1 node i j p q) (t0 : 0 ≤ t) (t1 : t < nT G) (hs : sp G (ft G t) = 1) (hB : fr G 1 node i j p q ≤ (e : Int)) (Rp : RepM h G ou row) {g : Hp} (J : J4 h G ou row g) {k k2 k3 : Nat} (hk : k ≤ 1000000000000000) (P : Pick (fA G ou row node i j p q t) i (if p = -1 then j else p) k a k2) (P' : Pick (fC G ou row node i j p q t a) (if p = -1 then a else q) j k2 c k3) :
    ∃ g', J4 h G ou row g' ∧ loopN (fun q' => M_laysAbove_L94 R (e + 1) 121 s node i j p q t q'.1 q'.2.1 q'.2.2) LN ((k : Int), i, g) = some (.inl ((k3 : Int), a, c, g')) := by
  obtain ⟨P1, P2, P3, P4⟩ := P
  have sp' := itm_span hi
  have hup : (if p = -1 then j else p) ≤ j := by split <;> omega
  obtain ⟨r, x, g', jg, er⟩ := walk_loop (body := fun q' => M_laysAbove_L94 R (e + 1) 121 s node i j p q t q'.1 q'.2.1 q'.2.2) (f := fA G ou row node i j p q t) (lo := i) (y1 := a) (k := k) (J4 h G ou row) (fun r => ∃ g', J4 h G ou row g' ∧ r = .inl ((k3 : Int), a, c, g')) J (by omega) P1 (by omega) (by
    intro y κ g y0 y1 jg hf hκ
    obtain ⟨g', j1, b1⟩ := L127_pass (R := R) (s := s) W he hi t0 t1 hs y0 (by omega) hB Rp jg (show κ ≤ 1000000000000000 by omega) hf
    refine ⟨g', ?_, j1⟩
    show M_laysAbove_L94 R (e + 1) 121 s node i j p q t κ y g = _
    unfold M_laysAbove_L94 M_laysAbove_j109 M_laysAbove_j125
    rw [if_neg (by omega), b1, ob_some, show w32 (y + 1) = y + 1 by unfold w32; omega]) (by
    intro g jg
    rw [show k - sI (fA G ou row node i j p q t) i (a - 1) = k2 by omega]
    obtain ⟨g', j1, b1⟩ := L127_find (R := R) (s := s) W he hi t0 t1 hs P1 P2 hB Rp jg (show k2 ≤ 1000000000000000 by omega) P'
    refine ⟨_, ?_, g', j1, rfl⟩
    show M_laysAbove_L94 R (e + 1) 121 s node i j p q t k2 a g = _
    unfold M_laysAbove_L94 M_laysAbove_j109 M_laysAbove_j125
    rw [if_neg (by omega), b1, ob_some])
  exact ⟨g', jg, by rw [x, er]⟩
theorem L94_pass (W : WF G) (he : 2 ≤ e) {s node i j p q t : Int} (hi : itm G 1 node i j p q) (t0 : 0 ≤ t) (t1 : t < nT G) (hs : sp G (ft G t) = 1) (hB : fr G 1 node i j p q ≤ (e : Int)) (Rp : RepM h G ou row) {g : Hp} (J : J4 h G ou row g) {k : Nat} (hk : k ≤ 1000000000000000) (P : sI (fA G ou row node i j p q t) i (if p = -1 then j else p) ≤ k) :
    ∃ g', J4 h G ou row g' ∧ loopN (fun q' => M_laysAbove_L94 R (e + 1) 121 s node i j p q t q'.1 q'.2.1 q'.2.2) LN ((k : Int), i, g) = some (.inr (((k - sI (fA G ou row node i j p q t) i (if p = -1 then j else p) : Nat) : Int), g')) := by
  have sp' := itm_span hi
  have hup : (if p = -1 then j else p) ≤ j ∧ i ≤ (if p = -1 then j else p) := by split <;> omega
  obtain ⟨r, x, g', jg, er⟩ := walk_loop (body := fun q' => M_laysAbove_L94 R (e + 1) 121 s node i j p q t q'.1 q'.2.1 q'.2.2) (f := fA G ou row node i j p q t) (lo := i) (y1 := (if p = -1 then j else p) + 1) (k := k) (J4 h G ou row) (fun r => ∃ g', J4 h G ou row g' ∧ r = .inr (((k - sI (fA G ou row node i j p q t) i (if p = -1 then j else p) : Nat) : Int), g')) J (by omega) (by omega) (by rw [show (if p = -1 then j else p) + 1 - 1 = (if p = -1 then j else p) by omega]; exact P) (by
    intro y κ g y0 y1 jg hf hκ
    obtain ⟨g', j1, b1⟩ := L127_pass (R := R) (s := s) W he hi t0 t1 hs y0 (by omega) hB Rp jg (show κ ≤ 1000000000000000 by omega) hf
    refine ⟨g', ?_, j1⟩
    show M_laysAbove_L94 R (e + 1) 121 s node i j p q t κ y g = _
    unfold M_laysAbove_L94 M_laysAbove_j109 M_laysAbove_j125
    rw [if_neg (by omega), b1, ob_some, show w32 (y + 1) = y + 1 by unfold w32; omega]) (by
    intro g jg
    refine ⟨_, ?_, g, jg, rfl⟩
    show M_laysAbove_L94 R (e + 1) 121 s node i j p q t _ ((if p = -1 then j else p) + 1) g = _
    unfold M_laysAbove_L94 M_laysAbove_j109
    rw [if_pos (by omega), show (if p = -1 then j else p) + 1 - 1 = (if p = -1 then j else p) by omega])
  exact ⟨g', jg, by rw [x, er]⟩
theorem L63_find (W : WF G) (he : 2 ≤ e) {s node i j p q t a c : Int} (hi : itm G 1 node i j p q) (hB : fr G 1 node i j p q ≤ (e : Int)) (Rp : RepM h G ou row) {g : Hp} (J : J4 h G ou row g) {k k1 k2 k3 : Nat} (hk : k ≤ 1000000000000000) (P0 : Pick (fT G ou row node i j p q) 0 (nT G - 1) k t k1) (P : Pick (fA G ou row node i j p q t) i (if p = -1 then j else p) k1 a k2) (P' : Pick (fC G ou row node i j p q t a) (if p = -1 then a else q) j k2 c k3) :
    ∃ g', J4 h G ou row g' ∧ loopN (fun q' => M_laysAbove_L63 R (e + 1) 121 s node i j p q q'.1 q'.2.1 q'.2.2) LN ((k : Int), 0, g) = some (.inl ((k3 : Int), t, a, c, g')) := by
  obtain ⟨P1, P2, P3, P4⟩ := P0
  have nt := wf_nt W
  have nn := wf_nn W
  have n0 := hi.2.1
  have n1 := hi.2.2.1
  have y6 : kK 124 = 21 ∧ (0 : Int) ≤ node ∧ node < kL 124 := ⟨kK_124, n0, by rw [kL_124]; omega⟩
  obtain ⟨r, x, g', jg, er⟩ := walk_loop (body := fun q' => M_laysAbove_L63 R (e + 1) 121 s node i j p q q'.1 q'.2.1 q'.2.2) (f := fT G ou row node i j p q) (lo := 0) (y1 := t) (k := k) (J4 h G ou row) (fun r => ∃ g', J4 h G ou row g' ∧ r = .inl ((k3 : Int), t, a, c, g')) J (by omega) P1 (by omega) (by
    intro y κ g y0 y1 jg hf hκ
    have Rg := RepM_144 Rp jg.1
    show ∃ g', M_laysAbove_L63 R (e + 1) 121 s node i j p q κ y g = _ ∧ _
    unfold M_laysAbove_L63 M_laysAbove_j264
    rw [if_pos kK_121, Rg.2.1, if_neg (by omega), ms_at Rg.1 (show ((6 : Int), (124 : Int)) ∈ msL by decide), if_pos y6, (Rg.2.2.2.2.1 node n0 n1).2.1, M_mayGo_ok Rg W y0 (by omega), ob_some, show w32 (y + 1) = y + 1 by unfold w32; omega]
    unfold fT at hf ⊢
    cases hgo : goB G ou y (lb G node) 1
    · rw [if_pos (by decide), if_neg Bool.false_ne_true]
      exact ⟨g, rfl, jg⟩
    · rw [hgo, if_pos rfl] at hf
      obtain ⟨g', j1, b1⟩ := L94_pass (R := R) (s := s) W he hi y0 (show y < nT G by omega) (goB_spec hgo).1 hB Rp jg (show κ ≤ 1000000000000000 by omega) hf
      rw [if_neg (by decide), b1, ob_some, if_pos rfl]
      exact ⟨g', rfl, j1⟩) (by
    intro g jg
    have Rg := RepM_144 Rp jg.1
    obtain ⟨hg, -⟩ := fT_pos P4
    rw [show k - sI (fT G ou row node i j p q) 0 (t - 1) = k1 by omega]
    obtain ⟨g', j1, b1⟩ := L94_find (R := R) (s := s) W he hi P1 (show t < nT G by omega) (goB_spec hg).1 hB Rp jg (show k1 ≤ 1000000000000000 by omega) P P'
    refine ⟨_, ?_, g', j1, rfl⟩
    show M_laysAbove_L63 R (e + 1) 121 s node i j p q k1 t g = _
    unfold M_laysAbove_L63
    rw [if_pos kK_121, Rg.2.1, if_neg (by omega), ms_at Rg.1 (show ((6 : Int), (124 : Int)) ∈ msL by decide), if_pos y6, (Rg.2.2.2.2.1 node n0 n1).2.1, M_mayGo_ok Rg W P1 (by omega), ob_some, hg, if_neg (by decide), b1, ob_some])
  exact ⟨g', jg, by rw [x, er]⟩
end
