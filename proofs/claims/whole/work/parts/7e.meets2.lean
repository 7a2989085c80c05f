/-! the reference: what is met below -/
def mtK (R : Nat → List Int → Hp → Option (Hp)) (d : Nat) (l1 l2 l3 l4 l5 l6 l7 l8 w : Int) (f : Hp) : Option ((Int × Hp) ⊕ (Hp)) :=
  if w = 0 then
    M_meetsBelow_j219 R d 121 l1 l2 l3 l4 l5 l6 l7 l8 f
  else
    if kK (f 121 8) = 21 ∧ (0 : Int) ≤ l1 ∧ l1 < kL (f 121 8) then
    M_meetsBelow_j169 R d 121 l1 l2 l3 l4 l5 l6 l7 l8 ((if l6 = 0 then (-1) else l4)) l8 l2 (f (f 121 8) l1) 1 121 f
    else none
theorem L120_eq (R : Nat → List Int → Hp → Option (Hp)) (d : Nat) (l1 l2 l3 l4 l5 l6 l7 l8 : Int) (h : Hp) : M_meetsBelow_L120 R d 121 l1 l2 l3 l4 l5 l6 l7 l8 h = if l3 < l8 then some (.inr h) else if kK 121 = 11 then ob (M_waysSplit d 121 l1 l2 l8 l3 l4 l5 h) (fun r => mtK R d l1 l2 l3 l4 l5 l6 l7 l8 r.1 r.2) else none := rfl
section
variable {h h' : Hp} {G : Gm} {ou : Int → Bool} {row : Int → Int} {S : SV} {Bd : Int} {e : Nat}
theorem meetsHost_ok (I : GIn G) (Q : AEq G ou (agS row) r64 8 S) (he : 6 ≤ e) (Hs : SpecM (M_meets_G e 0) G ou row S ((e : Int) - 6)) {t i j : Int} (t0 : 0 ≤ t) (t1 : t < nT G) (hs : sp G (ft G t) = 0) (i0 : 0 ≤ i) (ij : i ≤ j) (j8 : j ≤ 8) (hB : fr G 1 (ft G t) i j (-1) (-1) ≤ (e : Int) - 6) (hg : gr G (ft G t) i j (-1) (-1) ≤ 50) (hBd : mu G 1 (ft G t) i j (-1) (-1) < Bd) (Rp : RepM h G ou row) (hM : Memo h G ou row) (hT : MetI h G S Bd) (hU : Uin h) :
    ∃ h', M_meets_G (e + 1) 2 [121, t, i, j] h = some h' ∧ JM h h' G ou row S Bd ∧ ∀ u, 0 ≤ u → u < 8 → (bit (h' 121 45) u = 1 ↔ bit (h 121 45) u = 1 ∨ (S 1 (ft G t) i j (-1) (-1) ≠ 0 ∧ (u = t ∨ bu u (S 1 (ft G t) i j (-1) (-1))))) := by
  have W := I.1
  have nt := wf_nt W
  have hi := root_item W (i := i) (j := j) t0 t1 hs i0 ij j8
  show ∃ h', (if 1 ≤ e then M_meetsHost_b (M_meets_G e) e 121 t i j h else none) = _ ∧ _
  rw [if_pos (by omega)]
  unfold M_meetsHost_b
  obtain ⟨h1, x1, D1, M1⟩ := M_waysOf_ok W (d := e) hi (by omega) Rp hM
  obtain ⟨J1, e45⟩ := JM_144 (JM_rf hM hT hU) D1 M1
  have R1 := RepM_4 Rp J1.1
  have zz := S_z I Q hi j8 hg
  rw [if_pos kK_121, M_root_ok Rp W t0 t1, ob_some, x1, ob_some]
  dsimp only
  by_cases hz : wW G ou row 1 (ft G t) i j (-1) (-1) = 0
  · rw [if_pos (capN_0.mpr hz)]
    exact ⟨h1, rfl, J1, fun u u0 u1 => by rw [e45]; exact ⟨Or.inl, fun z => z.elim id (fun w => absurd (zz.mpr hz) w.1)⟩⟩
  · obtain ⟨Jp, bp⟩ := JM_put J1 (t := t) t0 (by omega)
    have Rq := RepM_4 Rp Jp.1
    rw [if_neg (fun w => hz (capN_0.mp w)), M_root_ok Rq W t0 t1, ob_some]
    obtain ⟨g6, x6, J6, b6⟩ := Hs 1 (ft G t) i j (-1) (-1) _ Bd hi hB hg hBd Rq Jp.2.1 Jp.2.2.1 Jp.2.2.2.2.1
    rw [x6, ob_some]
    refine ⟨g6, rfl, JM_tr Jp J6, fun u u0 u1 => ?_⟩
    rw [b6 u u0 u1, hput_eq, bp u u0 u1, e45]
    constructor
    · rintro ((z | z) | z)
      · exact Or.inl z
      · exact Or.inr ⟨(not_congr zz).mpr hz, Or.inl z⟩
      · exact Or.inr ⟨(not_congr zz).mpr hz, Or.inr z⟩
    · rintro (z | ⟨-, z | z⟩)
      · exact Or.inl (Or.inl z)
      · exact Or.inl (Or.inr z)
      · exact Or.inr z
theorem meetsBelow_ok (I : GIn G) (Q : AEq G ou (agS row) r64 8 S) (he : 8 ≤ e) (Hs' : ∀ e', e' ≤ e → SpecM (M_meets_G e' 0) G ou row S ((e' : Int) - 6)) {half node i j p q : Int} (hi : itm G half node i j p q) (hnb : ¬ (half = 1 ∧ kd G node = 0)) (hB : fr G half node i j p q ≤ (e : Int) - 4) (hg : gr G node i j p q ≤ 50) (hBd : mu G half node i j p q ≤ Bd) (hw : wW G ou row half node i j p q ≠ 0) (Rp : RepM h G ou row) (hM : Memo h G ou row) (hT : MetI h G S Bd) (hU : Uin h) :
    ∃ h', M_meets_G (e + 1) 3 [121, node, i, j, p, q] h = some h' ∧ JM h h' G ou row S Bd ∧ ∀ u, 0 ≤ u → u < 8 → (bit (h' 121 45) u = 1 ↔ bit (h 121 45) u = 1 ∨ bu u (S half node i j p q)) := by
  have W := I.1
  have Hs := Hs' e (Nat.le_refl _)
  have nt := wf_nt W
  have nn := wf_nn W
  have n0 := hi.2.1
  have n1 := hi.2.2.1
  have i0 := hi.2.2.2.1
  have ij := hi.2.2.2.2.1
  have j8 := hi.2.2.2.2.2.1
  have kd0 := wf_kd W n0 n1
  have hz := (not_congr (S_z I Q hi j8 hg)).mpr hw
  obtain ⟨e', rfl⟩ : ∃ e' : Nat, e = e' + 1 + 1 := ⟨e - 2, by omega⟩
  have y5 : kK 123 = 21 ∧ (0 : Int) ≤ node ∧ node < kL 123 := ⟨kK_123, n0, by rw [kL_123]; omega⟩
  have y6 : kK 124 = 21 ∧ (0 : Int) ≤ node ∧ node < kL 124 := ⟨kK_124, n0, by rw [kL_124]; omega⟩
  have y8 : kK 126 = 21 ∧ (0 : Int) ≤ node ∧ node < kL 126 := ⟨kK_126, n0, by rw [kL_126]; omega⟩
  have y9 : kK 127 = 21 ∧ (0 : Int) ≤ node ∧ node < kL 127 := ⟨kK_127, n0, by rw [kL_127]; omega⟩
  obtain ⟨r1, r2, r3, r4, r5, r6, r7, r8⟩ := Rp.2.2.2.2.1 node n0 n1
  show ∃ h', (if 1 ≤ e' + 1 + 1 then M_meetsBelow_b (M_meets_G (e' + 1 + 1)) (e' + 1 + 1) 121 node i j p q h else none) = _ ∧ _
  rw [if_pos (by omega)]
  unfold M_meetsBelow_b
  rw [if_pos kK_121, ms_at Rp.1 (show ((5 : Int), (123 : Int)) ∈ msL by decide), if_pos y5, r1]
  by_cases h4 : kd G node = 4
  · -- a place
    rw [if_pos h4]
    obtain ⟨-, -, ep, eq⟩ : itm G half node i j p q ∧ True ∧ p = -1 ∧ q = -1 := by
      have hsn := (wf_sp W n0 n1).2.2.1 (by omega) (by omega)
      rcases hi.2.2.2.2.2.2 with ⟨z, -⟩ | ⟨-, z1, z2⟩
      · omega
      · exact ⟨hi, trivial, z1, z2⟩
    have grt : ∀ t, 0 ≤ t → t < nT G → sp G (ft G t) = 0 → gr G (ft G t) i j (-1) (-1) ≤ 49 := by
      intro t t0 t1 _
      have := gr_place I (i := i) (j := j) n0 n1 h4 t0 t1 ep eq
      omega
    obtain ⟨h2, x2, J2, b2⟩ := use_loop (body := fun q' => M_meetsBelow_L13 (M_meets_G (e' + 1 + 1)) (e' + 1 + 1) 121 node i j q'.1 q'.2) (lo := 0) (hi := nT G - 1) (T0 := fun u => bit (h 121 45) u = 1) (T := fun t u => goB G ou t (lb G node) 0 = true ∧ S 1 (ft G t) i j (-1) (-1) ≠ 0 ∧ (u = t ∨ bu u (S 1 (ft G t) i j (-1) (-1)))) (fun h2 => JM h h2 G ou row S Bd) (by omega) (by omega) (JM_rf hM hT hU) (fun u _ _ => Iff.rfl) (by
      intro t g Ta t0 t1 Jg hTa
      have Rg := RepM_4 Rp Jg.1
      simp only
      unfold M_meetsBelow_L13 M_meetsBelow_j46
      rw [if_pos kK_121, Rg.2.1, if_neg (by omega), ms_at Rg.1 (show ((6 : Int), (124 : Int)) ∈ msL by decide), if_pos y6, (Rg.2.2.2.2.1 node n0 n1).2.1, M_mayGo_ok Rg W t0 (by omega), ob_some, show w32 (t + 1) = t + 1 by unfold w32; omega]
      cases hgo : goB G ou t (lb G node) 0
      · rw [if_pos (by decide)]
        exact ⟨g, rfl, Jg, fun u u0 u1 => (hTa u u0 u1).trans ⟨Or.inl, fun z => z.elim id (fun w => absurd w.1 Bool.false_ne_true)⟩⟩
      · have hs := (goB_spec hgo).1
        have f2 := root_item W (i := i) (j := j) t0 (show t < nT G by omega) hs i0 ij j8
        have ht : turn G (ft G t) < turn G node := by
          have hpl := wf_place W n0 n1 h4
          have hnd := (wf_nd W n0 n1).2.2.1 (by omega)
          have : turn G node = 2 := by
            unfold turn
            rw [if_neg (by omega), if_neg (by omega)]
          rw [this, turn_root W t0 (show t < nT G by omega)]
          split <;> omega
        have hfr := fr_turn (i' := i) (j' := j) (p' := -1) (q' := -1) W hi t0 (show t < nT G by omega) ht (by rw [ep, eq])
        have hmu := mu_turn (half' := 1) W hi f2 ht (by rw [ep, eq])
        have grr := grt t t0 (by omega) hs
        obtain ⟨g6, x6, J6, b6⟩ := meetsHost_ok (e := e' + 1) I Q (by omega) (Hs' (e' + 1) (by omega)) t0 (show t < nT G by omega) hs i0 ij j8 (by omega) (by omega) (show _ < Bd by omega) Rg Jg.2.1 Jg.2.2.1 Jg.2.2.2.2.1
        rw [if_neg (by decide), x6, ob_some]
        refine ⟨g6, rfl, JM_tr Jg J6, fun u u0 u1 => (b6 u u0 u1).trans ?_⟩
        rw [hTa u u0 u1]
        exact ⟨fun z => z.elim Or.inl (fun w => Or.inr ⟨rfl, w⟩), fun z => z.elim Or.inl (fun w => Or.inr w.2)⟩) (by
      intro g Jg
      have Rg := RepM_4 Rp Jg.1
      simp only
      unfold M_meetsBelow_L13
      rw [if_pos kK_121, Rg.2.1, if_pos (by omega)])
    rw [x2, ob_some]
    refine ⟨h2, rfl, J2, fun u u0 u1 => (b2 u u0 u1).trans (or_congr Iff.rfl ?_)⟩
    rw [(Q _ _ _ _ _ _ hi j8).2.2.2.2.2.1 h4, uH u0 u1 I Q i0 ij j8 j8 grt]
    exact Iff.rfl
  rw [if_neg h4]
  by_cases h0 : kd G node = 0
  · have hh0 : half = 0 := by have := hi.1; omega
    subst hh0
    rw [if_pos h0, ms_at Rp.1 (show ((9 : Int), (127 : Int)) ∈ msL by decide), if_pos y9, r5]
    by_cases h2 : c2 G node = -1
    · obtain ⟨f1, -⟩ := unary_item W hi h0 h2
      have hch := wf_ch W n0 n1 h0
      have dn := (wf_nd W n0 n1).2.2.2.1 h0
      rw [if_pos h2] at dn
      have hfr := fr_child (i := i) (j := j) (p := p) (q := q) (i' := i) (j' := j) (p' := p) (q' := q) W n0 n1 hch.1 hch.2.1 (by omega) rfl
      have hmu := mu_child (i := i) (j := j) (p := p) (q := q) (i' := i) (j' := j) (p' := p) (q' := q) W n0 n1 hch.1 hch.2.1 (by omega) rfl
      rw [if_pos h2, ms_at Rp.1 (show ((8 : Int), (126 : Int)) ∈ msL by decide), if_pos y8, r4]
      obtain ⟨g6, x6, J6, b6⟩ := Hs 1 (c1 G node) i j p q h Bd f1 (by omega) (by rw [gr_unary I n0 n1 h0 h2]; exact hg) (by omega) Rp hM hT hU
      rw [x6, ob_some]
      refine ⟨g6, rfl, J6, fun u u0 u1 => ?_⟩
      rw [(Q _ _ _ _ _ _ hi j8).2.2.2.2.2.2.1 h0 rfl h2]
      exact b6 u u0 u1
    · rw [if_neg h2]
      have hch := wf_ch W n0 n1 h0
      have q2 : c1 G node < c2 G node ∧ c2 G node < ft G (tr G node + 1) := by
        rcases hch.2.2 with q2 | q2
        · exact absurd q2 h2
        · exact q2
      have a1 := child_in W n0 n1 hch.1 hch.2.1
      have a2 := child_in W n0 n1 (by omega) q2.2
      have s1 := (wf_sp W a1.1 a1.2.1).1
      have s2 := (wf_sp W a2.1 a2.2.1).1
      have y14a : kK 130 = 23 ∧ (0 : Int) ≤ c1 G node ∧ c1 G node < kL 130 := ⟨kK_130, a1.1, by rw [kL_130]; omega⟩
      have y14b : kK 130 = 23 ∧ (0 : Int) ≤ c2 G node ∧ c2 G node < kL 130 := ⟨kK_130, a2.1, by rw [kL_130]; omega⟩
      have k1' := (Rp.2.2.2.2.1 _ a1.1 a1.2.1).2.2.2.2.2.2.1
      have k2' := (Rp.2.2.2.2.1 _ a2.1 a2.2.1).2.2.2.2.2.2.1
      rw [ms_at Rp.1 (show ((8 : Int), (126 : Int)) ∈ msL by decide), if_pos y8, r4, ms_at Rp.1 (show ((14 : Int), (130 : Int)) ∈ msL by decide), if_pos y14a, if_pos y14b, k1', k2']
      obtain ⟨h2', x2, J2, b2⟩ := use_loop (body := fun q' => M_meetsBelow_L120 (M_meets_G (e' + 1 + 1)) (e' + 1 + 1) 121 node i j p q (sp G (c1 G node)) (sp G (c2 G node)) q'.1 q'.2) (lo := i) (hi := j) (T0 := fun u => bit (h 121 45) u = 1) (T := fun m u => wSplit G (wW G ou row) node i m j p q ≠ 0 ∧ (bu u (S 1 (c1 G node) i m (gp (sp G (c1 G node)) p) (gp (sp G (c1 G node)) q)) ∨ bu u (S 1 (c2 G node) m j (gp (sp G (c2 G node)) p) (gp (sp G (c2 G node)) q)))) (fun h2 => JM h h2 G ou row S Bd) (by omega) (by omega) (JM_rf hM hT hU) (fun u _ _ => Iff.rfl) (by
        intro m g Ta m0 m1 Jg hTa
        have Rg := RepM_4 Rp Jg.1
        simp only
        rw [L120_eq]
        obtain ⟨g1, x5, D1, M1⟩ := split_ok (e := e') (B := (e' : Int) - 4) W (by omega) (waysOf_spec W e') hi h0 h2 m0 m1 (by omega) Rg Jg.2.1
        obtain ⟨J5, e45⟩ := JM_144 Jg D1 M1
        have R5 := RepM_4 Rp J5.1
        rw [if_neg (by omega), if_pos kK_121]
        unfold M_waysSplit
        rw [x5, ob_some]
        have ew : w32 (m + 1) = m + 1 := by unfold w32; omega
        show ∃ h2, mtK (M_meets_G (e' + 1 + 1)) (e' + 1 + 1) node i j p q (sp G (c1 G node)) (sp G (c2 G node)) m (capN (wSplit G (wW G ou row) node i m j p q)) g1 = _ ∧ _
        unfold mtK
        by_cases hz' : wSplit G (wW G ou row) node i m j p q = 0
        · rw [if_pos (capN_0.mpr hz')]
          unfold M_meetsBelow_j219
          rw [ew]
          exact ⟨g1, rfl, J5, fun u u0 u1 => by rw [e45]; exact (hTa u u0 u1).trans ⟨Or.inl, fun z => z.elim id (fun w => absurd hz' w.1)⟩⟩
        · have cs : ¬ (sp G (c1 G node) = 1 ∧ m < q) ∧ ¬ (sp G (c2 G node) = 1 ∧ p < m) ∧ nd G (c1 G node) ≤ cov i m (gp (sp G (c1 G node)) p) (gp (sp G (c1 G node)) q) ∧ nd G (c2 G node) ≤ cov m j (gp (sp G (c2 G node)) p) (gp (sp G (c2 G node)) q) := Classical.byContradiction (fun w => hz' (by unfold wSplit; rw [if_neg w]))
          obtain ⟨f1, f2, f3⟩ := split_items W hi h0 h2 m0 m1 cs.1 cs.2.1
          obtain ⟨u1', u2'⟩ := split_fr W hi h0 h2 f1 f2 f3 cs.2.2.1 cs.2.2.2
          obtain ⟨v1', v2'⟩ := split_mu W hi h0 h2 f1 f2 f3 cs.2.2.1 cs.2.2.2
          have ga := (gr_nn I f1 cs.2.2.1).1
          have gb := (gr_nn I f2 cs.2.2.2).1
          have gs := gr_split I n0 n1 h0 h2 f3
          have rr := R5.2.2.2.2.1 node n0 n1
          obtain ⟨g6, x6, J6, b6⟩ := Hs 1 (c1 G node) i m (gp (sp G (c1 G node)) p) (gp (sp G (c1 G node)) q) g1 Bd f1 (by omega) (by omega) (by omega) R5 J5.2.1 J5.2.2.1 J5.2.2.2.2.1
          have J6' := JM_tr J5 J6
          have R6 := RepM_4 Rp J6'.1
          have rr6 := R6.2.2.2.2.1 node n0 n1
          obtain ⟨g7, x7, J7, b7⟩ := Hs 1 (c2 G node) m j (gp (sp G (c2 G node)) p) (gp (sp G (c2 G node)) q) g6 Bd f2 (by omega) (by omega) (by omega) R6 J6'.2.1 J6'.2.2.1 J6'.2.2.2.2.1
          rw [if_neg (fun w => hz' (capN_0.mp w)), ms_at R5.1 (show ((8 : Int), (126 : Int)) ∈ msL by decide), if_pos y8, rr.2.2.2.1, gp_if s1]
          unfold M_meetsBelow_j169
          rw [gp_if s1]
          unfold M_meetsBelow_j180
          rw [if_pos kK_121, x6, ob_some, if_pos kK_121, ms_at R6.1 (show ((9 : Int), (127 : Int)) ∈ msL by decide), if_pos y9, rr6.2.2.2.2.1, gp_if s2]
          unfold M_meetsBelow_j205
          rw [gp_if s2]
          unfold M_meetsBelow_j216 M_meetsBelow_j219
          rw [if_pos kK_121, x7, ob_some, ew]
          refine ⟨g7, rfl, JM_tr J6' J7, fun u u0 u1 => ?_⟩
          rw [b7 u u0 u1, b6 u u0 u1, e45, hTa u u0 u1]
          constructor
          · rintro ((z | z) | z)
            · exact Or.inl z
            · exact Or.inr ⟨hz', Or.inl z⟩
            · exact Or.inr ⟨hz', Or.inr z⟩
          · rintro (z | ⟨-, z | z⟩)
            · exact Or.inl (Or.inl z)
            · exact Or.inl (Or.inr z)
            · exact Or.inr z) (by
        intro g Jg
        simp only
        unfold M_meetsBelow_L120
        rw [if_pos (by omega)])
      rw [x2, ob_some]
      refine ⟨h2', rfl, J2, fun u u0 u1 => (b2 u u0 u1).trans (or_congr Iff.rfl ?_)⟩
      rw [uS u0 u1 I Q hi j8 h0 h2 hg]
      exact Iff.rfl
  · -- a letter, an empty node, a foot
    rw [if_neg h0]
    refine ⟨h, rfl, JM_rf hM hT hU, fun u u0 u1 => ⟨Or.inl, fun z => z.elim id (fun w => ?_)⟩⟩
    exfalso
    have hK : S half node i j p q = 4294967296 := by
      by_cases k1 : kd G node = 1
      · have e := (Q _ _ _ _ _ _ hi j8).2.2.1 k1
        by_cases hj1 : j = i + 1
        · rw [if_pos hj1] at e
          have e' : S half node i j p q = if row i = lb G node then 4294967296 else 0 := e
          split at e'
          · exact e'
          · exact absurd e' hz
        · rw [if_neg hj1] at e; exact absurd e hz
      by_cases k2 : kd G node = 2
      · have e := (Q _ _ _ _ _ _ hi j8).2.2.2.1 k2
        by_cases hj1 : i = j
        · rw [if_pos hj1] at e; exact e
        · rw [if_neg hj1] at e; exact absurd e hz
      have k3 : kd G node = 3 := by omega
      have e := (Q _ _ _ _ _ _ hi j8).2.2.2.2.1 k3
      by_cases hj1 : p = i ∧ q = j
      · rw [if_pos hj1] at e; exact e
      · rw [if_neg hj1] at e; exact absurd e hz
    rw [hK] at w
    have fK : f0 4294967296 = 0 := (fld (a := 0) (b := 0) (c := 0) (d := 0) (by decide) (by decide) (by decide) (by decide) (by decide) (by decide) (by decide) (by decide)).1
    unfold bu at w
    rw [fK, ← f0_0] at w
    exact bu_0 u0 u1 w
end
