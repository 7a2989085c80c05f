/-! the body of a loop, its answers named -/
def stK (R : Nat → List Int → Hp → Option (Int × Hp)) (d : Nat) (l1 l2 l3 l4 l5 l6 l7 l8 w : Int) (f : Hp) : Option ((Int × Int × Hp) ⊕ (Int × Hp)) :=
  if w = 0 then
    M_stepsBelow_j278 R d 121 l1 l2 l3 l4 l5 l6 l7 l8 f
  else
    if kK (f 121 8) = 21 ∧ (0 : Int) ≤ l1 ∧ l1 < kL (f 121 8) then
    if kK (f 121 14) = 23 ∧ (0 : Int) ≤ f (f 121 8) l1 ∧ f (f 121 8) l1 < kL (f 121 14) then
    if kK (f 121 9) = 21 ∧ (0 : Int) ≤ l1 ∧ l1 < kL (f 121 9) then
    if kK (f 121 14) = 23 ∧ (0 : Int) ≤ f (f 121 9) l1 ∧ f (f 121 9) l1 < kL (f 121 14) then
    M_stepsBelow_j214 R d 121 l1 l2 l3 l4 l5 l6 l8 (f (f 121 14) (f (f 121 8) l1)) (f (f 121 14) (f (f 121 9) l1)) ((if f (f 121 14) (f (f 121 8) l1) = 0 then (-1) else l4)) l8 l2 (f (f 121 8) l1) 1 121 l7 121 f
    else none
    else none
    else none
    else none
theorem L136_eq (R : Nat → List Int → Hp → Option (Int × Hp)) (d : Nat) (l1 l2 l3 l4 l5 l6 l7 l8 : Int) (h : Hp) : M_stepsBelow_L136 R d 121 l1 l2 l3 l4 l5 l6 l7 l8 h = if l3 < l8 then some (.inr (l7, h)) else if kK 121 = 11 then ob (M_waysSplit d 121 l1 l2 l8 l3 l4 l5 h) (fun r => stK R d l1 l2 l3 l4 l5 l6 l7 l8 r.1 r.2) else none := rfl
def stK2 (R : Nat → List Int → Hp → Option (Int × Hp)) (d : Nat) (l1 l2 l3 l4 l5 l6 l8 l10 s7 v : Int) (f : Hp) : Option ((Int × Int × Hp) ⊕ (Int × Hp)) :=
  if kK 121 = 11 then
  if kK (f 121 9) = 21 ∧ (0 : Int) ≤ l1 ∧ l1 < kL (f 121 9) then
  M_stepsBelow_j252 R d 121 l1 l2 l3 l4 l5 l6 l8 l10 ((if l10 = 0 then (-1) else l4)) l3 l8 (f (f 121 9) l1) 1 121 v s7 121 f
  else none
  else none
theorem j225_eq (R : Nat → List Int → Hp → Option (Int × Hp)) (d : Nat) (l1 l2 l3 l4 l5 l6 l8 l10 s0 s1 s2 s3 s4 s5 s7 : Int) (h : Hp) : M_stepsBelow_j225 R d 121 l1 l2 l3 l4 l5 l6 l8 l10 s0 s1 s2 s3 s4 s5 121 s7 121 h = if kK 121 = 11 then ob (R 0 [121, s5, s4, s3, s2, s1, s0, l6] h) (fun r => stK2 R d l1 l2 l3 l4 l5 l6 l8 l10 s7 r.1 r.2) else none := rfl
section
variable {h h' : Hp} {G : Gm} {ou : Int → Bool} {row : Int → Int} {S : SV} {b B : Int} {e : Nat}
theorem stepsBelow_ok (I : GIn G) (Q : AEq G ou (agS row) r64 8 S) (hb : b = 0 ∨ b = 1) (he : 6 ≤ e) (Hs : SpecS (M_stepsIn_G e 0) G ou row S ((e : Int) - 6)) {half node i j p q : Int} (hi : itm G half node i j p q) (hnb : ¬ (half = 1 ∧ kd G node = 0)) (hB : fr G half node i j p q ≤ (e : Int) - 4) (hg : gr G node i j p q ≤ 50) (hw : wW G ou row half node i j p q ≠ 0) (Rp : RepM h G ou row) (hM : Memo h G ou row) (hS : MemoS h G S) :
    ∃ h', M_stepsIn_G (e + 1) 2 [121, node, i, j, p, q, b] h = some (qv b (S half node i j p q), h') ∧ JS h h' G ou row S := by
  have W := I.1
  have nt := wf_nt W
  have nn := wf_nn W
  have n0 := hi.2.1
  have n1 := hi.2.2.1
  have i0 := hi.2.2.2.1
  have ij := hi.2.2.2.2.1
  have j8 := hi.2.2.2.2.2.1
  have kd0 := wf_kd W n0 n1
  have hz := (not_congr (S_z I Q hi j8 hg)).mpr hw
  obtain ⟨e', rfl⟩ : ∃ e' : Nat, e = e' + 1 + 1 := ⟨e - 2, by omega⟩
  have y5 : kK 123 = 21 ∧ (0 : Int) ≤ node ∧ node < kL 123 := ⟨kK_123, n0, by rw [kL_123]; omega⟩
  have y6 : kK 124 = 21 ∧ (0 : Int) ≤ node ∧ node < kL 124 := ⟨kK_124, n0, by rw [kL_124]; omega⟩
  have y8 : kK 126 = 21 ∧ (0 : Int) ≤ node ∧ node < kL 126 := ⟨kK_126, n0, by rw [kL_126]; omega⟩
  have y9 : kK 127 = 21 ∧ (0 : Int) ≤ node ∧ node < kL 127 := ⟨kK_127, n0, by rw [kL_127]; omega⟩
  obtain ⟨r1, r2, r3, r4, r5, r6, r7, r8⟩ := Rp.2.2.2.2.1 node n0 n1
  show ∃ h', (if 1 ≤ e' + 1 + 1 then M_stepsBelow_b (M_stepsIn_G (e' + 1 + 1)) (e' + 1 + 1) 121 node i j p q b h else none) = _ ∧ _
  rw [if_pos (by omega)]
  unfold M_stepsBelow_b
  rw [if_pos kK_121, ms_at Rp.1 (show ((5 : Int), (123 : Int)) ∈ msL by decide), if_pos y5, r1]
  by_cases h4 : kd G node = 4
  · -- a place
    rw [if_pos h4]
    obtain ⟨-, -, ep, eq⟩ : itm G half node i j p q ∧ True ∧ p = -1 ∧ q = -1 := by
      have hsn := (wf_sp W n0 n1).2.2.1 (by omega) (by omega)
      rcases hi.2.2.2.2.2.2 with ⟨z, -⟩ | ⟨-, z1, z2⟩
      · omega
      · exact ⟨hi, trivial, z1, z2⟩
    have grt : ∀ t, 0 ≤ t → t < nT G → sp G (ft G t) = 0 → gr G (ft G t) i j (-1) (-1) ≤ 49 := by
      intro t t0 t1 _
      have := gr_place I (i := i) (j := j) n0 n1 h4 t0 t1 ep eq
      omega
    have ch := chH (b := b) (l := lb G node) I Q i0 ij j8 j8 grt
    rw [← (Q _ _ _ _ _ _ hi j8).2.2.2.2.2.1 h4] at ch
    obtain ⟨n', h2, x2, B2, J2⟩ := bst_loop (b := b) (body := fun q' => M_stepsBelow_L16 (M_stepsIn_G (e' + 1 + 1)) (e' + 1 + 1) 121 node i j b q'.1 q'.2.1 q'.2.2) (lo := 0) (hi := nT G - 1) (c := -1) (T0 := fun _ => False) (T := fun t v => goB G ou t (lb G node) 0 = true ∧ S 1 (ft G t) i j (-1) (-1) ≠ 0 ∧ v = fv b (S 1 (ft G t) i j (-1) (-1)) + 1) (fun h2 => JS h h2 G ou row S) (by omega) (by omega) (IsB_no (fun _ z => z)) ⟨F4.rf, hM, hS⟩ (by
      intro n t g Ta t0 t1 hB1 Jg
      have Rg := RepM_4 Rp Jg.1
      simp only
      unfold M_stepsBelow_L16 M_stepsBelow_j62
      rw [if_pos kK_121, Rg.2.1, if_neg (by omega), ms_at Rg.1 (show ((6 : Int), (124 : Int)) ∈ msL by decide), if_pos y6, (Rg.2.2.2.2.1 node n0 n1).2.1, M_mayGo_ok Rg W t0 (by omega), ob_some, show w32 (t + 1) = t + 1 by unfold w32; omega]
      cases hgo : goB G ou t (lb G node) 0
      · rw [if_pos (by decide), M_both_ok (by decide) (by decide) (by decide) (by decide), ob_some, if_pos kK_121, M_best_ok, ob_some]
        refine ⟨_, g, rfl, ?_, Jg⟩
        exact IsB_c (IsB_E hB1 (IsB_no (b := b) (T := fun _ => False) (fun _ z => z))) (fun v => ⟨fun z => z.elim Or.inl False.elim, fun z => z.elim Or.inl (fun w => absurd w.1 Bool.false_ne_true)⟩)
      · have hs := (goB_spec hgo).1
        have f2 := root_item W (i := i) (j := j) t0 (show t < nT G by omega) hs i0 ij j8
        have ht : turn G (ft G t) < turn G node := by
          have hpl := wf_place W n0 n1 h4
          have hnd := (wf_nd W n0 n1).2.2.1 (by omega)
          have : turn G node = 2 := by
            unfold turn
            rw [if_neg (by omega), if_neg (by omega)]
          rw [this, turn_root W t0 (show t < nT G by omega)]
          split <;> omega
        have hfr := fr_turn (i' := i) (j' := j) (p' := -1) (q' := -1) W hi t0 (show t < nT G by omega) ht (by rw [ep, eq])
        have grr := grt t t0 (by omega) hs
        obtain ⟨g6, x6, J6⟩ := Hs b 1 (ft G t) i j (-1) (-1) g hb f2 (by omega) (by omega) Rg Jg.2.1 Jg.2.2
        have J6' : JS h g6 G ou row S := ⟨Jg.1.tr J6.1, J6.2⟩
        have gv := itemGV (b := b) I Q f2 j8 (show gr G (ft G t) i j (-1) (-1) ≤ 49 by omega) (by decide) (by decide)
        have q50 : -1 ≤ qv b (S 1 (ft G t) i j (-1) (-1)) ∧ qv b (S 1 (ft G t) i j (-1) (-1)) < 1000 := by
          unfold qv
          split
          · omega
          · rename_i hz'
            have := fv_in (b := b) (gv.2.1 hz') (by decide)
            omega
        rw [if_neg (by decide), M_root_ok Rg W t0 (by omega), ob_some, x6, ob_some]
        simp only
        rw [M_both_ok q50.1 q50.2 (by decide) (by decide), ob_some, if_pos kK_121, M_best_ok, ob_some]
        refine ⟨_, g6, rfl, ?_, J6'⟩
        exact IsB_c (IsB_E hB1 (IsB_B gv.2.2 (IsB_one (b := b) (v := 1) (by decide)))) (fun v => ⟨fun z => z.elim Or.inl (fun ⟨u, w, hu, hw', hv⟩ => Or.inr ⟨by trivial, hu.1, by rw [hv, hu.2, hw']⟩), fun z => z.elim Or.inl (fun w => Or.inr ⟨_, 1, ⟨w.2.1, rfl⟩, rfl, w.2.2⟩)⟩)) (by
      intro n g Jg
      have Rg := RepM_4 Rp Jg.1
      simp only
      unfold M_stepsBelow_L16
      rw [if_pos kK_121, Rg.2.1, if_pos (by omega)])
    rw [x2, ob_some]
    refine ⟨h2, ?_, J2⟩
    have := IsB_u ch (IsB_c B2 (fun v => ⟨fun z => z.elim False.elim id, Or.inr⟩))
    rw [this]
  rw [if_neg h4]
  by_cases h0 : kd G node = 0
  · have hh0 : half = 0 := by have := hi.1; omega
    subst hh0
    rw [if_pos h0, ms_at Rp.1 (show ((9 : Int), (127 : Int)) ∈ msL by decide), if_pos y9, r5]
    by_cases h2 : c2 G node = -1
    · obtain ⟨f1, -⟩ := unary_item W hi h0 h2
      have hch := wf_ch W n0 n1 h0
      have dn := (wf_nd W n0 n1).2.2.2.1 h0
      rw [if_pos h2] at dn
      have hfr := fr_child (i := i) (j := j) (p := p) (q := q) (i' := i) (j' := j) (p' := p) (q' := q) W n0 n1 hch.1 hch.2.1 (by omega) rfl
      rw [if_pos h2, ms_at Rp.1 (show ((8 : Int), (126 : Int)) ∈ msL by decide), if_pos y8, r4]
      obtain ⟨g6, x6, J6⟩ := Hs b 1 (c1 G node) i j p q h hb f1 (by omega) (by rw [gr_unary I n0 n1 h0 h2]; exact hg) Rp hM hS
      rw [x6, ob_some, (Q _ _ _ _ _ _ hi j8).2.2.2.2.2.2.1 h0 rfl h2]
      exact ⟨g6, rfl, J6⟩
    · rw [if_neg h2]
      have ch := chS (b := b) I Q hi j8 h0 h2 hg
      have hch := wf_ch W n0 n1 h0
      have q2 : c1 G node < c2 G node ∧ c2 G node < ft G (tr G node + 1) := by
        rcases hch.2.2 with q2 | q2
        · exact absurd q2 h2
        · exact q2
      have a1 := child_in W n0 n1 hch.1 hch.2.1
      have a2 := child_in W n0 n1 (by omega) q2.2
      have s1 := (wf_sp W a1.1 a1.2.1).1
      have s2 := (wf_sp W a2.1 a2.2.1).1
      obtain ⟨n', h2', x2, B2, J2⟩ := bst_loop (b := b) (body := fun q' => M_stepsBelow_L136 (M_stepsIn_G (e' + 1 + 1)) (e' + 1 + 1) 121 node i j p q b q'.1 q'.2.1 q'.2.2) (lo := i) (hi := j) (c := -1) (T0 := fun _ => False) (T := fun m v => wSplit G (wW G ou row) node i m j p q ≠ 0 ∧ v = fv b (S 1 (c1 G node) i m (gp (sp G (c1 G node)) p) (gp (sp G (c1 G node)) q)) + fv b (S 1 (c2 G node) m j (gp (sp G (c2 G node)) p) (gp (sp G (c2 G node)) q))) (fun h2 => JS h h2 G ou row S) (by omega) (by omega) (IsB_no (fun _ z => z)) ⟨F4.rf, hM, hS⟩ (by
        intro n m g Ta m0 m1 hB1 Jg
        have Rg := RepM_4 Rp Jg.1
        simp only
        rw [L136_eq]
        obtain ⟨g1, x5, D1, M1⟩ := split_ok (e := e') (B := (e' : Int) - 4) W (by omega) (waysOf_spec W e') hi h0 h2 m0 m1 (by omega) Rg Jg.2.1
        have J5 := JS_144 Jg D1 M1
        have R5 := RepM_4 Rp J5.1
        rw [if_neg (by omega), if_pos kK_121]
        unfold M_waysSplit
        rw [x5, ob_some]
        have ew : w32 (m + 1) = m + 1 := by unfold w32; omega
        show ∃ n' h2, stK (M_stepsIn_G (e' + 1 + 1)) (e' + 1 + 1) node i j p q b n m (capN (wSplit G (wW G ou row) node i m j p q)) g1 = _ ∧ _
        unfold stK
        by_cases hz' : wSplit G (wW G ou row) node i m j p q = 0
        · rw [if_pos (capN_0.mpr hz')]
          unfold M_stepsBelow_j278
          rw [ew]
          exact ⟨n, g1, rfl, IsB_c hB1 (fun v => ⟨Or.inl, fun z => z.elim id (fun w => absurd hz' w.1)⟩), J5⟩
        · have cs : ¬ (sp G (c1 G node) = 1 ∧ m < q) ∧ ¬ (sp G (c2 G node) = 1 ∧ p < m) ∧ nd G (c1 G node) ≤ cov i m (gp (sp G (c1 G node)) p) (gp (sp G (c1 G node)) q) ∧ nd G (c2 G node) ≤ cov m j (gp (sp G (c2 G node)) p) (gp (sp G (c2 G node)) q) := Classical.byContradiction (fun w => hz' (by unfold wSplit; rw [if_neg w]))
          have wp : wW G ou row 1 (c1 G node) i m (gp (sp G (c1 G node)) p) (gp (sp G (c1 G node)) q) ≠ 0 ∧ wW G ou row 1 (c2 G node) m j (gp (sp G (c2 G node)) p) (gp (sp G (c2 G node)) q) ≠ 0 := by
            unfold wSplit at hz'
            rw [if_pos cs] at hz'
            exact Nat.mul_ne_zero_iff.mp hz'
          obtain ⟨f1, f2, f3⟩ := split_items W hi h0 h2 m0 m1 cs.1 cs.2.1
          obtain ⟨u1, u2⟩ := split_fr W hi h0 h2 f1 f2 f3 cs.2.2.1 cs.2.2.2
          have ga := (gr_nn I f1 cs.2.2.1).1
          have gb := (gr_nn I f2 cs.2.2.2).1
          have gs := gr_split I n0 n1 h0 h2 f3
          have za := (not_congr (S_z I Q f1 (by omega) (by omega))).mpr wp.1
          have zb := (not_congr (S_z I Q f2 j8 (by omega))).mpr wp.2
          have rr := R5.2.2.2.2.1 node n0 n1
          have k1 := (R5.2.2.2.2.1 _ a1.1 a1.2.1).2.2.2.2.2.2.1
          have k2 := (R5.2.2.2.2.1 _ a2.1 a2.2.1).2.2.2.2.2.2.1
          have y14a : kK 130 = 23 ∧ (0 : Int) ≤ c1 G node ∧ c1 G node < kL 130 := ⟨kK_130, a1.1, by rw [kL_130]; omega⟩
          have y14b : kK 130 = 23 ∧ (0 : Int) ≤ c2 G node ∧ c2 G node < kL 130 := ⟨kK_130, a2.1, by rw [kL_130]; omega⟩
          obtain ⟨g6, x6, J6⟩ := Hs b 1 (c1 G node) i m (gp (sp G (c1 G node)) p) (gp (sp G (c1 G node)) q) g1 hb f1 (by omega) (by omega) R5 J5.2.1 J5.2.2
          have J6' : JS h g6 G ou row S := ⟨J5.1.tr J6.1, J6.2⟩
          have R6 := RepM_4 Rp J6'.1
          obtain ⟨g7, x7, J7⟩ := Hs b 1 (c2 G node) m j (gp (sp G (c2 G node)) p) (gp (sp G (c2 G node)) q) g6 hb f2 (by omega) (by omega) R6 J6'.2.1 J6'.2.2
          have J7' : JS h g7 G ou row S := ⟨J6'.1.tr J7.1, J7.2⟩
          have gvA := itemGV (b := b) I Q f1 (by omega) (show gr G (c1 G node) i m (gp (sp G (c1 G node)) p) (gp (sp G (c1 G node)) q) ≤ 50 by omega) (by decide) (by decide)
          have gvB := itemGV (b := b) I Q f2 j8 (show gr G (c2 G node) m j (gp (sp G (c2 G node)) p) (gp (sp G (c2 G node)) q) ≤ 50 by omega) (by decide) (by decide)
          have fa := fv_in (b := b) (gvA.2.1 za) (by decide)
          have fb := fv_in (b := b) (gvB.2.1 zb) (by decide)
          have qa : qv b (S 1 (c1 G node) i m (gp (sp G (c1 G node)) p) (gp (sp G (c1 G node)) q)) = fv b (S 1 (c1 G node) i m (gp (sp G (c1 G node)) p) (gp (sp G (c1 G node)) q)) := by unfold qv; rw [if_neg za]
          have qb : qv b (S 1 (c2 G node) m j (gp (sp G (c2 G node)) p) (gp (sp G (c2 G node)) q)) = fv b (S 1 (c2 G node) m j (gp (sp G (c2 G node)) p) (gp (sp G (c2 G node)) q)) := by unfold qv; rw [if_neg zb]
          rw [if_neg (fun w => hz' (capN_0.mp w)), ms_at R5.1 (show ((8 : Int), (126 : Int)) ∈ msL by decide), if_pos y8, rr.2.2.2.1, ms_at R5.1 (show ((14 : Int), (130 : Int)) ∈ msL by decide), if_pos y14a, ms_at R5.1 (show ((9 : Int), (127 : Int)) ∈ msL by decide), if_pos y9, rr.2.2.2.2.1, if_pos y14b, k1, k2, gp_if s1]
          unfold M_stepsBelow_j214
          rw [gp_if s1, j225_eq, if_pos kK_121, x6, ob_some]
          show ∃ n' h2, stK2 (M_stepsIn_G (e' + 1 + 1)) (e' + 1 + 1) node i j p q b m (sp G (c2 G node)) n (qv b (S 1 (c1 G node) i m (gp (sp G (c1 G node)) p) (gp (sp G (c1 G node)) q))) g6 = _ ∧ _
          unfold stK2
          have rr6 := R6.2.2.2.2.1 node n0 n1
          rw [if_pos kK_121, ms_at R6.1 (show ((9 : Int), (127 : Int)) ∈ msL by decide), if_pos y9, rr6.2.2.2.2.1, gp_if s2]
          unfold M_stepsBelow_j252 M_stepsBelow_j263 M_stepsBelow_j278
          rw [gp_if s2, if_pos kK_121, x7, ob_some, ew]
          dsimp only
          rw [qa, qb, M_both_ok (by omega) (by omega) (by omega) (by omega), ob_some, if_pos kK_121, M_best_ok, ob_some]
          refine ⟨_, g7, rfl, ?_, J7'⟩
          have ev : bth (fv b (S 1 (c1 G node) i m (gp (sp G (c1 G node)) p) (gp (sp G (c1 G node)) q))) (fv b (S 1 (c2 G node) m j (gp (sp G (c2 G node)) p) (gp (sp G (c2 G node)) q))) = fv b (S 1 (c1 G node) i m (gp (sp G (c1 G node)) p) (gp (sp G (c1 G node)) q)) + fv b (S 1 (c2 G node) m j (gp (sp G (c2 G node)) p) (gp (sp G (c2 G node)) q)) := by
            unfold bth; rw [if_neg (by omega), if_neg (by omega)]
          rw [ev]
          exact IsB_c (IsB_E hB1 (IsB_one (b := b) (v := fv b (S 1 (c1 G node) i m (gp (sp G (c1 G node)) p) (gp (sp G (c1 G node)) q)) + fv b (S 1 (c2 G node) m j (gp (sp G (c2 G node)) p) (gp (sp G (c2 G node)) q))) (by omega))) (fun v => ⟨fun z => z.elim Or.inl (fun w => Or.inr ⟨hz', w⟩), fun z => z.elim Or.inl (fun w => Or.inr w.2)⟩)) (by
        intro n g Jg
        simp only
        unfold M_stepsBelow_L136
        rw [if_pos (by omega)])
      rw [x2, ob_some]
      refine ⟨h2', ?_, J2⟩
      have := IsB_u ch (IsB_c B2 (fun v => ⟨fun z => z.elim False.elim id, Or.inr⟩))
      rw [this]
  · -- a letter, an empty node, a foot
    rw [if_neg h0]
    refine ⟨h, ?_, F4.rf, hM, hS⟩
    have fK := fld (a := 0) (b := 0) (c := 0) (d := 0) (by decide) (by decide) (by decide) (by decide) (by decide) (by decide) (by decide) (by decide)
    have f2K : f2 4294967296 = 0 := fK.2.2.1
    have f3K : f3 4294967296 = 0 := fK.2.2.2
    have hK : S half node i j p q = 4294967296 := by
      by_cases k1 : kd G node = 1
      · have e := (Q _ _ _ _ _ _ hi j8).2.2.1 k1
        by_cases hj1 : j = i + 1
        · rw [if_pos hj1] at e
          have e' : S half node i j p q = if row i = lb G node then 4294967296 else 0 := e
          split at e'
          · exact e'
          · exact absurd e' hz
        · rw [if_neg hj1] at e; exact absurd e hz
      by_cases k2 : kd G node = 2
      · have e := (Q _ _ _ _ _ _ hi j8).2.2.2.1 k2
        by_cases hj1 : i = j
        · rw [if_pos hj1] at e; exact e
        · rw [if_neg hj1] at e; exact absurd e hz
      have k3 : kd G node = 3 := by omega
      have e := (Q _ _ _ _ _ _ hi j8).2.2.2.2.1 k3
      by_cases hj1 : p = i ∧ q = j
      · rw [if_pos hj1] at e; exact e
      · rw [if_neg hj1] at e; exact absurd e hz
    rw [hK]
    unfold qv fv
    rw [if_neg (by decide), f2K, f3K, ite_self]
theorem stepsIn_spec (I : GIn G) (Q : AEq G ou (agS row) r64 8 S) : ∀ d : Nat, SpecS (M_stepsIn_G d 0) G ou row S ((d : Int) - 6) := by
  have W := I.1
  intro d
  induction d using Nat.strongRecOn with
  | _ d ih =>
  intro b half node i j p q h hb hi hfr hg Rp hM hS
  have h4 := fr_pos W hi
  obtain ⟨e, rfl⟩ : ∃ e : Nat, d = e + 1 + 1 := ⟨d - 2, by omega⟩
  have n0 := hi.2.1
  have n1 := hi.2.2.1
  have j8 := hi.2.2.2.2.2.1
  have nn := wf_nn W
  have he : 8 ≤ e := by omega
  show ∃ h', (if 1 ≤ e + 1 then M_stepsIn_b (M_stepsIn_G (e + 1)) (e + 1) 121 half node i j p q b h else none) = _ ∧ _
  rw [if_pos (by omega)]
  unfold M_stepsIn_b
  obtain ⟨h1, x1, D1, M1⟩ := M_waysOf_ok W (d := e + 1) hi (by omega) Rp hM
  have J1 : JS h h1 G ou row S := JS_144 ⟨F4.rf, hM, hS⟩ D1 M1
  have R1 := RepM_4 Rp J1.1
  have zz := S_z I Q hi j8 hg
  rw [if_pos kK_121, x1, ob_some]
  simp only
  by_cases hz : wW G ou row half node i j p q = 0
  · rw [hz, if_pos (show capN 0 = 0 by decide)]
    refine ⟨h1, ?_, J1⟩
    unfold qv
    rw [if_pos (zz.mpr hz)]
  rw [if_neg (fun w => hz (capN_0.mp w)), M_spanOf_ok R1 hi, ob_some, M_keyOf_ok R1 W hi, ob_some]
  have hkey := mkey_in R1 W hi
  have sel : (if b = 0 then h1 121 42 else h1 121 43) = 145 + b := by
    rw [ms_at R1.1 (show ((42 : Int), (145 : Int)) ∈ msL by decide), ms_at R1.1 (show ((43 : Int), (146 : Int)) ∈ msL by decide)]
    rcases hb with rfl | rfl <;> rfl
  have yk : kK (145 + b) = 21 ∧ (0 : Int) ≤ mkey h1 half node i j p q ∧ mkey h1 half node i j p q < kL (145 + b) := by
    refine ⟨by rcases hb with rfl | rfl <;> decide, hkey.1, ?_⟩
    rcases hb with rfl | rfl
    · rw [show kL (145 + 0) = 43200 by decide]; exact hkey.2
    · rw [show kL (145 + 1) = 43200 by decide]; exact hkey.2
  have y5 : kK 123 = 21 ∧ (0 : Int) ≤ node ∧ node < kL 123 := ⟨kK_123, n0, by rw [kL_123]; omega⟩
  rw [sel]
  unfold M_stepsIn_j54
  rw [if_pos (by omega), if_pos yk]
  have kept : ∀ h2, JS h h2 G ou row S → ∃ h', M_stepsIn_j115 (M_stepsIn_G (e + 1)) (e + 1) (mkey h1 half node i j p q) (145 + b) (qv b (S half node i j p q)) (mkey h1 half node i j p q) (145 + b) h2 = some (qv b (S half node i j p q), h') ∧ JS h h' G ou row S := by
    intro h2 J2
    have R2 := RepM_4 Rp J2.1
    have ek : mkey h1 half node i j p q = mkey h2 half node i j p q := by rw [mkey_4 J1.1, mkey_4 J2.1]
    unfold M_stepsIn_j115 M_stepsIn_j116
    rw [if_pos yk]
    simp only
    rw [if_pos yk, hput_eq]
    have Fp : F4 h2 (hput h2 (145 + b) (mkey h1 half node i j p q) (qv b (S half node i j p q))) := fun a k _ _ h3 h4' _ => hput_ne1 (by omega)
    refine ⟨_, rfl, J2.1.tr Fp, ?_, ?_⟩
    · intro half' node' i' j' p' q' hi'
      rw [mkey_4 Fp, hput_ne1 (by omega)]
      exact J2.2.1 half' node' i' j' p' q' hi'
    · intro b' half' node' i' j' p' q' hb' hi'
      rw [mkey_4 Fp]
      by_cases hbb : b' = b
      · subst hbb
        by_cases hm : mkey h2 half' node' i' j' p' q' = mkey h1 half node i j p q
        · right
          rw [hm, hput_eq]
          rw [ek] at hm
          obtain ⟨rfl, rfl, rfl, rfl, rfl, rfl⟩ := mkey_inj R2 W hi' hi hm
          rfl
        · rw [hput_ne2 hm]
          exact J2.2.2 b' half' node' i' j' p' q' hb' hi'
      · rw [hput_ne1 (by omega)]
        exact J2.2.2 b' half' node' i' j' p' q' hb' hi'
  by_cases hu : h1 (145 + b) (mkey h1 half node i j p q) = -9
  · rw [if_pos hu]
    have below : ¬ (half = 1 ∧ kd G node = 0) → ∃ h', M_stepsIn_j101 (M_stepsIn_G (e + 1)) (e + 1) 121 node i j p q b (mkey h1 half node i j p q) (145 + b) (mkey h1 half node i j p q) (145 + b) h1 = some (qv b (S half node i j p q), h') ∧ JS h h' G ou row S := by
      intro hnb
      obtain ⟨h2, x2, J2⟩ := stepsBelow_ok (e := e) I Q hb (by omega) (ih e (by omega)) hi hnb (by omega) hg hz R1 J1.2.1 J1.2.2
      unfold M_stepsIn_j101
      rw [if_pos kK_121, x2, ob_some]
      exact kept h2 ⟨J1.1.tr J2.1, J2.2⟩
    by_cases hh1 : half = 1
    · subst hh1
      rw [if_pos rfl, if_pos kK_121, ms_at R1.1 (show ((5 : Int), (123 : Int)) ∈ msL by decide), if_pos y5, (R1.2.2.2.2.1 node n0 n1).1]
      by_cases hk : kd G node = 0
      · rw [if_pos hk]
        obtain ⟨h2, x2, J2⟩ := stepsAbove_ok (e := e) I Q hb (by omega) (ih e (by omega)) hi hk (by omega) hg R1 J1.2.1 J1.2.2
        rw [x2, ob_some]
        exact kept h2 ⟨J1.1.tr J2.1, J2.2⟩
      · rw [if_neg hk]
        exact below (fun z => hk z.2)
    · rw [if_neg hh1]
      exact below (fun z => hh1 z.1)
  · rw [if_neg hu]
    unfold M_stepsIn_j116
    rw [if_pos yk]
    refine ⟨h1, ?_, J1⟩
    rcases J1.2.2 b half node i j p q hb hi with z | z
    · exact absurd z hu
    · rw [z]
end
