/-! the reference: fewest and most steps -/
def F4 (h h' : Hp) : Prop := ∀ a i, (a ≠ 121 ∨ i ≠ 45) → a ≠ 144 → a ≠ 145 → a ≠ 146 → a ≠ 147 → h' a i = h a i
theorem F4.rf {h : Hp} : F4 h h := fun _ _ _ _ _ _ _ => rfl
theorem F4.tr {h h' h'' : Hp} (a : F4 h h') (b : F4 h' h'') : F4 h h'' := fun x i h1 h2 h3 h4 h5 => by rw [b x i h1 h2 h3 h4 h5, a x i h1 h2 h3 h4 h5]
theorem D144.f4 {h h' : Hp} (a : D144 h h') : F4 h h' := fun x i _ h2 _ _ _ => a x i h2
section
variable {h h' : Hp} {G : Gm} {ou : Int → Bool} {row : Int → Int} {S : SV} {b B : Int} {e : Nat}
theorem RepM_4 (Rp : RepM h G ou row) (D : F4 h h') : RepM h' G ou row := by
  have ec : ∀ a i, a ≠ 121 → a ≠ 144 → a ≠ 145 → a ≠ 146 → a ≠ 147 → h' a i = h a i := fun a i x => D a i (Or.inl x)
  have e1 : ∀ i, i ≠ 45 → h' 121 i = h 121 i := fun i x => D 121 i (Or.inr x) (by decide) (by decide) (by decide) (by decide)
  obtain ⟨p1, p2, p3, p4, p5, p6, p7, p8, p9, p10⟩ := Rp
  refine ⟨fun q hq => ?_, by rw [e1 _ (by decide)]; exact p2, by rw [e1 _ (by decide)]; exact p3, fun t t0 t1 => by rw [ec 122 _ (by decide) (by decide) (by decide) (by decide) (by decide)]; exact p4 t t0 t1, fun n n0 n1 => ?_, fun t t0 t1 => by rw [ec 132 _ (by decide) (by decide) (by decide) (by decide) (by decide)]; exact p6 t t0 t1, fun t t0 t1 => by rw [e1 _ (by decide)]; exact p7 t t0 t1, fun i i0 i1 => by rw [ec 138 _ (by decide) (by decide) (by decide) (by decide) (by decide)]; exact p8 i i0 i1, ?_, ?_⟩
  · have : ∀ q ∈ msL, q.1 ≠ 45 := by decide
    rw [e1 _ (this q hq)]
    exact p1 q hq
  · rw [ec 123 _ (by decide) (by decide) (by decide) (by decide) (by decide), ec 124 _ (by decide) (by decide) (by decide) (by decide) (by decide), ec 125 _ (by decide) (by decide) (by decide) (by decide) (by decide), ec 126 _ (by decide) (by decide) (by decide) (by decide) (by decide), ec 127 _ (by decide) (by decide) (by decide) (by decide) (by decide), ec 129 _ (by decide) (by decide) (by decide) (by decide) (by decide), ec 130 _ (by decide) (by decide) (by decide) (by decide) (by decide), ec 131 _ (by decide) (by decide) (by decide) (by decide) (by decide)]
    exact p5 n n0 n1
  · intro i j p q i0 ij j8 d
    rw [ec 139 _ (by decide) (by decide) (by decide) (by decide) (by decide)]
    exact p9 i j p q i0 ij j8 d
  · intro i j p q i' j' p' q' i0 ij j8 d i0' ij' j8' d' he
    rw [ec 139 _ (by decide) (by decide) (by decide) (by decide) (by decide), ec 139 _ (by decide) (by decide) (by decide) (by decide) (by decide)] at he
    exact p10 i j p q i' j' p' q' i0 ij j8 d i0' ij' j8' d' he
theorem mkey_4 (D : F4 h h') (half node i j p q : Int) : mkey h' half node i j p q = mkey h half node i j p q := by
  unfold mkey; rw [D 139 _ (Or.inl (by decide)) (by decide) (by decide) (by decide) (by decide)]
/-- what was kept of steps is right -/
def MemoS (h : Hp) (G : Gm) (S : SV) : Prop := ∀ b half node i j p q, (b = 0 ∨ b = 1) → itm G half node i j p q → h (145 + b) (mkey h half node i j p q) = -9 ∨ h (145 + b) (mkey h half node i j p q) = qv b (S half node i j p q)
def JS (h h' : Hp) (G : Gm) (ou : Int → Bool) (row : Int → Int) (S : SV) : Prop := F4 h h' ∧ Memo h' G ou row ∧ MemoS h' G S
theorem JS_144 (J : JS h h' G ou row S) {h'' : Hp} (D : D144 h' h'') (M : Memo h'' G ou row) : JS h h'' G ou row S := by
  refine ⟨J.1.tr D.f4, M, ?_⟩
  intro b half node i j p q hb hi
  rw [mkey_144 D, D (145 + b) _ (by omega)]
  exact J.2.2 b half node i j p q hb hi
def SpecS (F : List Int → Hp → Option (Int × Hp)) (G : Gm) (ou : Int → Bool) (row : Int → Int) (S : SV) (B : Int) : Prop := ∀ b half node i j p q (h : Hp), (b = 0 ∨ b = 1) → itm G half node i j p q → fr G half node i j p q ≤ B → gr G node i j p q ≤ 50 → RepM h G ou row → Memo h G ou row → MemoS h G S →
  ∃ h', F [121, half, node, i, j, p, q, b] h = some (qv b (S half node i j p q), h') ∧ JS h h' G ou row S
theorem M_best_ok (x y : Int) : M_best 121 x y b = some (bst b x y) := by
  unfold M_best M_best_j10 bst
  by_cases hx : x = -1
  · rw [if_pos hx, if_pos (Or.inl hx)]
  rw [if_neg hx]
  by_cases hy : y = -1
  · rw [if_pos hy, if_pos (Or.inr hy)]
  have hn : ¬ (x = -1 ∨ y = -1) := fun z => z.elim hx hy
  rw [if_neg hy, if_neg hn]
theorem M_both_ok {x y : Int} (x0 : -1 ≤ x) (x1 : x < 1000) (y0 : -1 ≤ y) (y1 : y < 1000) : M_both x y = some (bth x y) := by
  unfold M_both bth
  rw [show w32 (x + y) = x + y by unfold w32; omega]
/-- loops that keep the best -/
theorem bst_loop {body : Int × Int × Hp → Option ((Int × Int × Hp) ⊕ (Int × Hp))} {lo hi c : Int} {T0 : Int → Prop} {T : Int → Int → Prop} (J : Hp → Prop) (hlo : lo ≤ hi + 1) (hN : hi + 1 - lo < 1000) (n0 : IsB b c T0) {h : Hp} (j0 : J h)
    (step : ∀ (n x : Int) (h1 : Hp) (Ta : Int → Prop), lo ≤ x → x ≤ hi → IsB b n Ta → J h1 → ∃ n' h2, body (n, x, h1) = some (.inl (n', x + 1, h2)) ∧ IsB b n' (fun v => Ta v ∨ T x v) ∧ J h2)
    (exit : ∀ (n : Int) (h1 : Hp), J h1 → body (n, hi + 1, h1) = some (.inr (n, h1))) : ∃ n' h', loopN body LN (c, lo, h) = some (n', h') ∧ IsB b n' (fun v => T0 v ∨ ∃ x, (lo ≤ x ∧ x ≤ hi) ∧ T x v) ∧ J h' := by
  obtain ⟨r, e, p1, p2⟩ := loop_ok (body := body) (fun s => lo ≤ s.2.1 ∧ s.2.1 ≤ hi + 1 ∧ IsB b s.1 (fun v => T0 v ∨ ∃ x, (lo ≤ x ∧ x ≤ s.2.1 - 1) ∧ T x v) ∧ J s.2.2) (fun s => (hi + 1 - s.2.1).toNat) (fun r => IsB b r.1 (fun v => T0 v ∨ ∃ x, (lo ≤ x ∧ x ≤ hi) ∧ T x v) ∧ J r.2) (by
    rintro ⟨n, x, h1⟩ ⟨x0, x1, hb, hj⟩
    simp only at x0 x1 hb hj
    by_cases hx : x ≤ hi
    · left
      obtain ⟨n', h2, e1, e2, e3⟩ := step n x h1 _ x0 hx hb hj
      refine ⟨_, e1, ⟨by simp only; omega, by simp only; omega, ?_, e3⟩, by simp only; omega⟩
      simp only
      refine IsB_c e2 (fun v => ⟨?_, ?_⟩)
      · rintro ((z | ⟨y, ⟨y0, y1⟩, z⟩) | z)
        · exact Or.inl z
        · exact Or.inr ⟨y, ⟨y0, by omega⟩, z⟩
        · exact Or.inr ⟨x, ⟨x0, by omega⟩, z⟩
      · rintro (z | ⟨y, ⟨y0, y1⟩, z⟩)
        · exact Or.inl (Or.inl z)
        · by_cases hy : y = x
          · subst hy; exact Or.inr z
          · exact Or.inl (Or.inr ⟨y, ⟨y0, by omega⟩, z⟩)
    · right
      have hx' : x = hi + 1 := by omega
      subst hx'
      refine ⟨_, exit n h1 hj, ?_, hj⟩
      simp only
      rw [show hi + 1 - 1 = hi by omega] at hb
      exact hb) LN (c, lo, h) ⟨Int.le_refl _, hlo, by
      simp only
      exact IsB_c n0 (fun v => ⟨Or.inl, fun z => z.elim id (fun ⟨x, hx, _⟩ => by omega)⟩), j0⟩ (by unfold LN; simp only; omega)
  obtain ⟨r1, r2⟩ := r
  exact ⟨r1, r2, e, p1, p2⟩
theorem stepsAbove_ok (I : GIn G) (Q : AEq G ou (agS row) r64 8 S) (hb : b = 0 ∨ b = 1) (he : 6 ≤ e) (Hs : SpecS (M_stepsIn_G e 0) G ou row S ((e : Int) - 6)) {node i j p q : Int} (hi : itm G 1 node i j p q) (hk : kd G node = 0) (hB : fr G 1 node i j p q ≤ (e : Int) - 4) (hg : gr G node i j p q ≤ 50) (Rp : RepM h G ou row) (hM : Memo h G ou row) (hS : MemoS h G S) :
    ∃ h', M_stepsIn_G (e + 1) 1 [121, node, i, j, p, q, b] h = some (qv b (S 1 node i j p q), h') ∧ JS h h' G ou row S := by
  have W := I.1
  have nt := wf_nt W
  have nn := wf_nn W
  have n0 := hi.2.1
  have n1 := hi.2.2.1
  have i0 := hi.2.2.2.1
  have j8 := hi.2.2.2.2.2.1
  obtain ⟨e', rfl⟩ : ∃ e' : Nat, e = e' + 1 := ⟨e - 1, by omega⟩
  have ch := chA (b := b) I Q hi j8 hk hg
  have hh := half_item hi
  have y7 : kK 125 = 21 ∧ (0 : Int) ≤ node ∧ node < kL 125 := ⟨kK_125, n0, by rw [kL_125]; omega⟩
  have y6 : kK 124 = 21 ∧ (0 : Int) ≤ node ∧ node < kL 124 := ⟨kK_124, n0, by rw [kL_124]; omega⟩
  show ∃ h', (if 1 ≤ e' + 1 then M_stepsAbove_b (M_stepsIn_G (e' + 1)) (e' + 1) 121 node i j p q b h else none) = _ ∧ _
  rw [if_pos (by omega)]
  unfold M_stepsAbove_b
  rw [if_pos kK_121, ms_at Rp.1 (show ((7 : Int), (125 : Int)) ∈ msL by decide), if_pos y7, (Rp.2.2.2.2.1 node n0 n1).2.2.1]
  -- the bare branch
  have start : ∃ c h1, (if mk G node = 2 then M_stepsAbove_j28 (M_stepsIn_G (e' + 1)) (e' + 1) 121 node i j p q b (-1) h else ob (M_stepsIn_G (e' + 1) 0 [121, 0, node, i, j, p, q, b] h) (fun r25 => M_stepsAbove_j28 (M_stepsIn_G (e' + 1)) (e' + 1) 121 node i j p q b r25.1 r25.2)) = M_stepsAbove_j28 (M_stepsIn_G (e' + 1)) (e' + 1) 121 node i j p q b c h1 ∧ IsB b c (fun v => mk G node ≠ 2 ∧ S 0 node i j p q ≠ 0 ∧ v = fv b (S 0 node i j p q)) ∧ JS h h1 G ou row S := by
    by_cases hm : mk G node = 2
    · rw [if_pos hm]
      exact ⟨-1, h, rfl, IsB_no (fun v z => z.1 hm), F4.rf, hM, hS⟩
    · rw [if_neg hm]
      obtain ⟨h1, x1, J1⟩ := Hs b 0 node i j p q h hb hh.1 (by have := fr_half (G := G) (node := node) (i := i) (j := j) (p := p) (q := q); omega) hg Rp hM hS
      rw [x1, ob_some]
      exact ⟨_, h1, rfl, IsB_c (itemGV (b := b) I Q hh.1 j8 hg (by decide) (by decide)).2.2 (fun v => ⟨fun z => ⟨hm, z⟩, fun z => z.2⟩), J1⟩
  obtain ⟨c, h1, x1, B1, J1⟩ := start
  rw [x1]
  unfold M_stepsAbove_j28
  by_cases hm1 : mk G node = 1
  · -- no guest may go in: the loop ends at once
    have R1 := RepM_4 Rp J1.1
    have le : loopN (fun q' => M_stepsAbove_L33 (M_stepsIn_G (e' + 1)) (e' + 1) 121 node i j p q b q'.1 q'.2.1 q'.2.2) LN (c, 0, h1) = some (c, h1) := by
      rw [show LN = 999999 + 1 from rfl]
      unfold loopN M_stepsAbove_L33
      simp only
      rw [if_pos kK_121, R1.2.1, ms_at R1.1 (show ((7 : Int), (125 : Int)) ∈ msL by decide), if_pos y7, (R1.2.2.2.2.1 node n0 n1).2.2.1]
      by_cases hz : nT G ≤ 0
      · rw [if_pos hz]
      · rw [if_neg hz, if_pos hm1]
    rw [le, ob_some]
    refine ⟨h1, ?_, J1⟩
    have := IsB_u ch (IsB_c B1 (fun v => ⟨Or.inl, fun z => z.elim id (fun w => absurd hm1 w.1)⟩))
    rw [this]
  · obtain ⟨n', h2, x2, B2, J2⟩ := bst_loop (b := b) (body := fun q' => M_stepsAbove_L33 (M_stepsIn_G (e' + 1)) (e' + 1) 121 node i j p q b q'.1 q'.2.1 q'.2.2) (lo := 0) (hi := nT G - 1) (T := fun t v => goB G ou t (lb G node) 1 = true ∧ ∃ a, (i ≤ a ∧ a ≤ (if p = -1 then j else p)) ∧ ∃ c, ((if p = -1 then a else q) ≤ c ∧ c ≤ j) ∧ S 1 (ft G t) i j a c ≠ 0 ∧ S 0 node a c p q ≠ 0 ∧ v = fv b (S 1 (ft G t) i j a c) + 1 + fv b (S 0 node a c p q)) (fun h2 => JS h h2 G ou row S) (by omega) (by omega) B1 J1 (by
      intro n t g Ta t0 t1 hB1 Jg
      have Rg := RepM_4 Rp Jg.1
      simp only
      unfold M_stepsAbove_L33 M_stepsAbove_j199
      rw [if_pos kK_121, Rg.2.1, if_neg (by omega), ms_at Rg.1 (show ((7 : Int), (125 : Int)) ∈ msL by decide), if_pos y7, (Rg.2.2.2.2.1 node n0 n1).2.2.1, if_neg hm1, ms_at Rg.1 (show ((6 : Int), (124 : Int)) ∈ msL by decide), if_pos y6, (Rg.2.2.2.2.1 node n0 n1).2.1, M_mayGo_ok Rg W t0 (by omega), ob_some, show w32 (t + 1) = t + 1 by unfold w32; omega]
      cases hgo : goB G ou t (lb G node) 1
      · rw [if_pos (by decide)]
        exact ⟨n, g, rfl, IsB_c hB1 (fun v => ⟨Or.inl, fun z => z.elim id (fun w => absurd w.1 Bool.false_ne_true)⟩), Jg⟩
      · have hs := (goB_spec hgo).1
        rw [if_neg (by decide)]
        obtain ⟨n2, g2, x3, B3, J3⟩ := bst_loop (b := b) (body := fun q' => M_stepsAbove_L74 (M_stepsIn_G (e' + 1)) (e' + 1) 121 node i j p q b t q'.1 q'.2.1 q'.2.2) (lo := i) (hi := if p = -1 then j else p) (c := n) (T0 := Ta) (T := fun a v => ∃ c, ((if p = -1 then a else q) ≤ c ∧ c ≤ j) ∧ S 1 (ft G t) i j a c ≠ 0 ∧ S 0 node a c p q ≠ 0 ∧ v = fv b (S 1 (ft G t) i j a c) + 1 + fv b (S 0 node a c p q)) (fun h2 => JS h h2 G ou row S) (by have := itm_span hi; split <;> omega) (by have := itm_span hi; split <;> omega) hB1 Jg (by
          intro n a g Ta a0 a1 hB2 Jg
          simp only
          unfold M_stepsAbove_L74 M_stepsAbove_j88 M_stepsAbove_j104
          rw [if_neg (by omega), show w32 (a + 1) = a + 1 by have := itm_span hi; unfold w32; split at a1 <;> omega]
          obtain ⟨n3, g3, x4, B4, J4⟩ := bst_loop (b := b) (body := fun q' => M_stepsAbove_L106 (M_stepsIn_G (e' + 1)) (e' + 1) 121 node i j p q b t a q'.1 q'.2.1 q'.2.2) (lo := if p = -1 then a else q) (hi := j) (c := n) (T0 := Ta) (T := fun c v => S 1 (ft G t) i j a c ≠ 0 ∧ S 0 node a c p q ≠ 0 ∧ v = fv b (S 1 (ft G t) i j a c) + 1 + fv b (S 0 node a c p q)) (fun h2 => JS h h2 G ou row S) (by have := itm_span hi; split at a1 <;> split <;> omega) (by have := itm_span hi; split at a1 <;> split <;> omega) hB2 Jg (by
            intro n c g Ta c0 c1 hB3 Jg
            have Rg := RepM_4 Rp Jg.1
            have sp' := itm_span hi
            obtain ⟨f1, f2, f3, -⟩ := around_items W hi t0 (show t < nT G by omega) hs a0 a1 c0 c1
            simp only
            unfold M_stepsAbove_L106 M_stepsAbove_j187
            obtain ⟨g1, x5, D1, M1⟩ := around_ok (e := e') (B := (e' : Int) - 4) W (by omega) (waysOf_spec W e') hi t0 (show t < nT G by omega) hs a0 a1 c0 c1 (by omega) Rg Jg.2.1
            have J5 := JS_144 Jg D1 M1
            have R5 := RepM_4 Rp J5.1
            rw [if_neg (by omega), if_pos kK_121]
            unfold M_waysAround
            rw [x5, ob_some, show w32 (c + 1) = c + 1 by unfold w32; omega]
            have zo : S 1 (ft G t) i j a c ≠ 0 ∧ S 0 node a c p q ≠ 0 ↔ wAround G (wW G ou row) node t a c i j p q ≠ 0 := by
              unfold wAround
              by_cases hr : nd G (ft G t) ≤ cov i j a c ∧ nd G node ≤ cov a c p q
              · have gq := gr_round I (node := node) (i := i) (j := j) (p := p) (q := q) t0 (show t < nT G by omega) hs f3
                have ga := (gr_nn I f2 hr.1).1
                have gb := (gr_nn I f1 hr.2).1
                rw [if_pos hr, Nat.mul_ne_zero_iff, Ne, Ne, S_z I Q f2 j8 (by omega), S_z I Q f1 (by omega) (by omega)]
                exact ⟨fun z => ⟨z.2, z.1⟩, fun z => ⟨z.2, z.1⟩⟩
              · rw [if_neg hr]
                constructor
                · intro z
                  exfalso
                  apply hr
                  refine ⟨Classical.byContradiction (fun w => z.1 ?_), Classical.byContradiction (fun w => z.2 ?_)⟩
                  · exact (Q _ _ _ _ _ _ f2 j8).2.1 (by omega)
                  · exact (Q _ _ _ _ _ _ f1 (by omega)).2.1 (by omega)
                · intro z; exact absurd rfl z
            by_cases hz : wAround G (wW G ou row) node t a c i j p q = 0
            · rw [hz, if_pos (show capN 0 = 0 by decide)]
              exact ⟨n, g1, rfl, IsB_c hB3 (fun v => ⟨Or.inl, fun z => z.elim id (fun w => absurd hz (zo.mp ⟨w.1, w.2.1⟩))⟩), J5⟩
            · obtain ⟨za, zb⟩ := zo.mpr hz
              have hr : nd G (ft G t) ≤ cov i j a c ∧ nd G node ≤ cov a c p q := Classical.byContradiction (fun w => hz (by unfold wAround; rw [if_neg w]))
              have gq := gr_round I (node := node) (i := i) (j := j) (p := p) (q := q) t0 (show t < nT G by omega) hs f3
              have ga := (gr_nn I f2 hr.1).1
              have gb := (gr_nn I f1 hr.2).1
              obtain ⟨u1, u2⟩ := around_fr W hi t0 (show t < nT G by omega) hs f1 f2 f3 hr.1 hr.2
              rw [if_neg (fun w => hz (capN_0.mp w)), M_root_ok R5 W t0 (by omega), ob_some]
              obtain ⟨g6, x6, J6⟩ := Hs b 1 (ft G t) i j a c g1 hb f2 (by omega) (by omega) R5 J5.2.1 J5.2.2
              have J6' : JS h g6 G ou row S := ⟨J5.1.tr J6.1, J6.2⟩
              have R6 := RepM_4 Rp J6'.1
              obtain ⟨g7, x7, J7⟩ := Hs b 0 node a c p q g6 hb f1 (by omega) (by omega) R6 J6'.2.1 J6'.2.2
              have J7' : JS h g7 G ou row S := ⟨J6'.1.tr J7.1, J7.2⟩
              have gvA := itemGV (b := b) I Q f2 j8 (show gr G (ft G t) i j a c ≤ 50 by omega) (by decide) (by decide)
              have gvB := itemGV (b := b) I Q f1 (show c ≤ 8 by omega) (show gr G node a c p q ≤ 50 by omega) (by decide) (by decide)
              have fa := fv_in (b := b) (gvA.2.1 za) (by decide)
              have fb := fv_in (b := b) (gvB.2.1 zb) (by decide)
              have qa : qv b (S 1 (ft G t) i j a c) = fv b (S 1 (ft G t) i j a c) := by unfold qv; rw [if_neg za]
              have qb : qv b (S 0 node a c p q) = fv b (S 0 node a c p q) := by unfold qv; rw [if_neg zb]
              rw [x6, ob_some]
              simp only
              rw [x7, ob_some]
              simp only
              rw [qa, qb, show w32 (1 + fv b (S 1 (ft G t) i j a c)) = 1 + fv b (S 1 (ft G t) i j a c) by unfold w32; omega, M_both_ok (by omega) (by omega) (by omega) (by omega), ob_some, M_best_ok, ob_some]
              refine ⟨_, g7, rfl, ?_, J7'⟩
              have ev : bth (1 + fv b (S 1 (ft G t) i j a c)) (fv b (S 0 node a c p q)) = fv b (S 1 (ft G t) i j a c) + 1 + fv b (S 0 node a c p q) := by
                unfold bth; rw [if_neg (by omega), if_neg (by omega)]; omega
              rw [ev]
              exact IsB_c (IsB_E hB3 (IsB_one (b := b) (v := fv b (S 1 (ft G t) i j a c) + 1 + fv b (S 0 node a c p q)) (by omega))) (fun v => ⟨fun z => z.elim Or.inl (fun w => Or.inr ⟨za, zb, w⟩), fun z => z.elim Or.inl (fun w => Or.inr w.2.2)⟩)) (by
            intro n g Jg
            simp only
            unfold M_stepsAbove_L106
            rw [if_pos (by omega)])
          rw [x4, ob_some]
          exact ⟨n3, g3, rfl, B4, J4⟩) (by
          intro n g Jg
          simp only
          unfold M_stepsAbove_L74 M_stepsAbove_j88
          rw [if_pos (by omega)])
        rw [x3, ob_some]
        exact ⟨n2, g2, rfl, IsB_c B3 (fun v => ⟨fun z => z.elim Or.inl (fun w => Or.inr ⟨rfl, w⟩), fun z => z.elim Or.inl (fun w => Or.inr w.2)⟩), J3⟩) (by
      intro n g Jg
      have Rg := RepM_4 Rp Jg.1
      simp only
      unfold M_stepsAbove_L33
      rw [if_pos kK_121, Rg.2.1, if_pos (by omega)])
    rw [x2, ob_some]
    refine ⟨h2, ?_, J2⟩
    have := IsB_u ch (IsB_c B2 (fun v => ⟨fun z => z.elim Or.inl (fun w => Or.inr ⟨hm1, w⟩), fun z => z.elim Or.inl (fun w => Or.inr w.2)⟩))
    rw [this]
end
