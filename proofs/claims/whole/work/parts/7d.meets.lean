/-! the reference: what is met -/
section
variable {h h' h0 h1 h2 : Hp} {G : Gm} {ou : Int → Bool} {row : Int → Int} {S : SV} {Bd : Int} {e : Nat}
def MetI (h : Hp) (G : Gm) (S : SV) (Bd : Int) : Prop := ∀ half node i j p q, itm G half node i j p q → mu G half node i j p q < Bd → h 147 (mkey h half node i j p q) = 0 ∨ (∀ u, 0 ≤ u → u < 8 → bu u (S half node i j p q) → bit (h 121 45) u = 1)
def MUn (h h' : Hp) (G : Gm) (Bd : Int) : Prop := ∀ half node i j p q, itm G half node i j p q → Bd ≤ mu G half node i j p q → h' 147 (mkey h half node i j p q) = h 147 (mkey h half node i j p q)
def Uin (h : Hp) : Prop := 0 ≤ h 121 45 ∧ h 121 45 < 256
def JM (h h' : Hp) (G : Gm) (ou : Int → Bool) (row : Int → Int) (S : SV) (Bd : Int) : Prop := F4 h h' ∧ Memo h' G ou row ∧ MetI h' G S Bd ∧ MUn h h' G Bd ∧ Uin h' ∧ ∀ u, 0 ≤ u → u < 8 → bit (h 121 45) u = 1 → bit (h' 121 45) u = 1
theorem JM_rf (M : Memo h G ou row) (T : MetI h G S Bd) (U : Uin h) : JM h h G ou row S Bd := ⟨F4.rf, M, T, fun _ _ _ _ _ _ _ _ => rfl, U, fun _ _ _ z => z⟩
theorem JM_tr (a : JM h0 h1 G ou row S Bd) (b : JM h1 h2 G ou row S Bd) : JM h0 h2 G ou row S Bd := by
  refine ⟨a.1.tr b.1, b.2.1, b.2.2.1, ?_, b.2.2.2.2.1, fun u x y z => b.2.2.2.2.2 u x y (a.2.2.2.2.2 u x y z)⟩
  intro half node i j p q hi hB
  have := b.2.2.2.1 half node i j p q hi hB
  rw [mkey_4 a.1] at this
  rw [this]
  exact a.2.2.2.1 half node i j p q hi hB
theorem JM_144 (J : JM h0 h1 G ou row S Bd) (D : D144 h1 h2) (M : Memo h2 G ou row) : JM h0 h2 G ou row S Bd ∧ h2 121 45 = h1 121 45 := by
  have e45 : h2 121 45 = h1 121 45 := D 121 45 (by decide)
  refine ⟨JM_tr J ⟨D.f4, M, ?_, fun _ _ _ _ _ _ _ _ => D 147 _ (by decide), by unfold Uin; rw [e45]; exact J.2.2.2.2.1, fun u _ _ z => by rw [e45]; exact z⟩, e45⟩
  intro half node i j p q hi hB
  rw [mkey_144 D, D 147 _ (by decide), e45]
  exact J.2.2.1 half node i j p q hi hB
/-- a tree comes into the set -/
theorem JM_put (J : JM h0 h1 G ou row S Bd) {t : Int} (t0 : 0 ≤ t) (t1 : t < 8) : JM h0 (hput h1 121 45 (i_or (h1 121 45) (i_shl 1 t))) G ou row S Bd ∧ ∀ u, 0 ≤ u → u < 8 → (bit (i_or (h1 121 45) (i_shl 1 t)) u = 1 ↔ bit (h1 121 45) u = 1 ∨ u = t) := by
  have U := J.2.2.2.2.1
  have b8 : (((2 ^ (8 : Int).toNat : Nat)) : Int) = 256 := by decide
  have o := or1_in (x := h1 121 45) (t := t) (n := 8) U.1 (by decide) (by decide) (by rw [b8]; exact U.2) t0 t1
  rw [b8] at o
  have hb : ∀ u, 0 ≤ u → u < 8 → (bit (i_or (h1 121 45) (i_shl 1 t)) u = 1 ↔ bit (h1 121 45) u = 1 ∨ u = t) := by
    intro u u0 u1
    rw [bit_or1 U.1 (by have := U.2; omega) t0 (by omega) u0 (by omega)]
    by_cases h : u = t
    · rw [if_pos h]; exact ⟨fun _ => Or.inr h, fun _ => rfl⟩
    · rw [if_neg h]; exact ⟨Or.inl, fun z => z.elim id (fun w => absurd w h)⟩
  have F : F4 h1 (hput h1 121 45 (i_or (h1 121 45) (i_shl 1 t))) := fun a k x _ _ _ _ => by
    rcases x with x | x
    · exact hput_ne1 x
    · exact hput_ne2 x
  refine ⟨JM_tr J ⟨F, ?_, ?_, fun _ _ _ _ _ _ _ _ => hput_ne1 (by decide), by unfold Uin; rw [hput_eq]; exact o, fun u u0 u1 z => by rw [hput_eq]; exact (hb u u0 u1).mpr (Or.inl z)⟩, hb⟩
  · intro half node i j p q hi
    rw [mkey_4 F, hput_ne1 (by decide)]
    exact J.2.1 half node i j p q hi
  · intro half node i j p q hi hB
    rw [mkey_4 F, hput_ne1 (show (147 : Int) ≠ 121 by decide), hput_eq]
    rcases J.2.2.1 half node i j p q hi hB with z | z
    · exact Or.inl z
    · exact Or.inr (fun u u0 u1 w => (hb u u0 u1).mpr (Or.inl (z u u0 u1 w)))
theorem use_loop {body : Int × Hp → Option ((Int × Hp) ⊕ Hp)} {lo hi : Int} {T0 : Int → Prop} {T : Int → Int → Prop} (J : Hp → Prop) (hlo : lo ≤ hi + 1) (hN : hi + 1 - lo < 1000) {h : Hp} (j0 : J h) (b0 : ∀ u, 0 ≤ u → u < 8 → (bit (h 121 45) u = 1 ↔ T0 u))
    (step : ∀ (x : Int) (h1 : Hp) (Ta : Int → Prop), lo ≤ x → x ≤ hi → J h1 → (∀ u, 0 ≤ u → u < 8 → (bit (h1 121 45) u = 1 ↔ Ta u)) → ∃ h2, body (x, h1) = some (.inl (x + 1, h2)) ∧ J h2 ∧ (∀ u, 0 ≤ u → u < 8 → (bit (h2 121 45) u = 1 ↔ (Ta u ∨ T x u))))
    (exit : ∀ (h1 : Hp), J h1 → body (hi + 1, h1) = some (.inr h1)) : ∃ h', loopN body LN (lo, h) = some h' ∧ J h' ∧ (∀ u, 0 ≤ u → u < 8 → (bit (h' 121 45) u = 1 ↔ (T0 u ∨ ∃ x, (lo ≤ x ∧ x ≤ hi) ∧ T x u))) := by
  obtain ⟨r, e, p1, p2⟩ := loop_ok (body := body) (fun s => lo ≤ s.1 ∧ s.1 ≤ hi + 1 ∧ J s.2 ∧ (∀ u, 0 ≤ u → u < 8 → (bit (s.2 121 45) u = 1 ↔ (T0 u ∨ ∃ x, (lo ≤ x ∧ x ≤ s.1 - 1) ∧ T x u)))) (fun s => (hi + 1 - s.1).toNat) (fun r => J r ∧ (∀ u, 0 ≤ u → u < 8 → (bit (r 121 45) u = 1 ↔ (T0 u ∨ ∃ x, (lo ≤ x ∧ x ≤ hi) ∧ T x u)))) (by
    rintro ⟨x, h1⟩ ⟨x0, x1, hj, hb⟩
    simp only at x0 x1 hj hb
    by_cases hx : x ≤ hi
    · left
      obtain ⟨h2, e1, e2, e3⟩ := step x h1 _ x0 hx hj hb
      refine ⟨_, e1, ⟨by simp only; omega, by simp only; omega, e2, ?_⟩, by simp only; omega⟩
      intro u u0 u1
      simp only
      rw [e3 u u0 u1]
      constructor
      · rintro ((z | ⟨y, ⟨y0, y1⟩, z⟩) | z)
        · exact Or.inl z
        · exact Or.inr ⟨y, ⟨y0, by omega⟩, z⟩
        · exact Or.inr ⟨x, ⟨x0, by omega⟩, z⟩
      · rintro (z | ⟨y, ⟨y0, y1⟩, z⟩)
        · exact Or.inl (Or.inl z)
        · by_cases hy : y = x
          · subst hy; exact Or.inr z
          · exact Or.inl (Or.inr ⟨y, ⟨y0, by omega⟩, z⟩)
    · right
      have hx' : x = hi + 1 := by omega
      subst hx'
      refine ⟨_, exit h1 hj, hj, ?_⟩
      intro u u0 u1
      have := hb u u0 u1
      rw [show hi + 1 - 1 = hi by omega] at this
      exact this) LN (lo, h) ⟨Int.le_refl _, hlo, j0, by
      intro u u0 u1
      simp only
      rw [b0 u u0 u1]
      exact ⟨Or.inl, fun z => z.elim id (fun ⟨x, hx, _⟩ => by omega)⟩⟩ (by unfold LN; simp only; omega)
  exact ⟨r, e, p1, p2⟩
def SpecM (F : List Int → Hp → Option Hp) (G : Gm) (ou : Int → Bool) (row : Int → Int) (S : SV) (B : Int) : Prop := ∀ half node i j p q (h : Hp) Bd, itm G half node i j p q → fr G half node i j p q ≤ B → gr G node i j p q ≤ 50 → mu G half node i j p q < Bd → RepM h G ou row → Memo h G ou row → MetI h G S Bd → Uin h →
  ∃ h', F [121, half, node, i, j, p, q] h = some h' ∧ JM h h' G ou row S Bd ∧ ∀ u, 0 ≤ u → u < 8 → (bit (h' 121 45) u = 1 ↔ bit (h 121 45) u = 1 ∨ bu u (S half node i j p q))
theorem meetsAbove_ok (I : GIn G) (Q : AEq G ou (agS row) r64 8 S) (he : 6 ≤ e) (Hs : SpecM (M_meets_G e 0) G ou row S ((e : Int) - 6)) {node i j p q : Int} (hi : itm G 1 node i j p q) (hk : kd G node = 0) (hB : fr G 1 node i j p q ≤ (e : Int) - 4) (hg : gr G node i j p q ≤ 50) (hBd : mu G 1 node i j p q ≤ Bd) (Rp : RepM h G ou row) (hM : Memo h G ou row) (hT : MetI h G S Bd) (hU : Uin h) :
    ∃ h', M_meets_G (e + 1) 1 [121, node, i, j, p, q] h = some h' ∧ JM h h' G ou row S Bd ∧ ∀ u, 0 ≤ u → u < 8 → (bit (h' 121 45) u = 1 ↔ bit (h 121 45) u = 1 ∨ bu u (S 1 node i j p q)) := by
  have W := I.1
  have nt := wf_nt W
  have nn := wf_nn W
  have n0 := hi.2.1
  have n1 := hi.2.2.1
  have j8 := hi.2.2.2.2.2.1
  obtain ⟨e', rfl⟩ : ∃ e' : Nat, e = e' + 1 := ⟨e - 1, by omega⟩
  have hh := half_item hi
  have y7 : kK 125 = 21 ∧ (0 : Int) ≤ node ∧ node < kL 125 := ⟨kK_125, n0, by rw [kL_125]; omega⟩
  have y6 : kK 124 = 21 ∧ (0 : Int) ≤ node ∧ node < kL 124 := ⟨kK_124, n0, by rw [kL_124]; omega⟩
  show ∃ h', (if 1 ≤ e' + 1 then M_meetsAbove_b (M_meets_G (e' + 1)) (e' + 1) 121 node i j p q h else none) = _ ∧ _
  rw [if_pos (by omega)]
  unfold M_meetsAbove_b
  rw [if_pos kK_121, ms_at Rp.1 (show ((7 : Int), (125 : Int)) ∈ msL by decide), if_pos y7, (Rp.2.2.2.2.1 node n0 n1).2.2.1]
  have start : ∃ h1, (if mk G node = 2 then M_meetsAbove_j22 (M_meets_G (e' + 1)) (e' + 1) 121 node i j p q h else ob (M_meets_G (e' + 1) 0 [121, 0, node, i, j, p, q] h) (fun r19 => M_meetsAbove_j22 (M_meets_G (e' + 1)) (e' + 1) 121 node i j p q r19)) = M_meetsAbove_j22 (M_meets_G (e' + 1)) (e' + 1) 121 node i j p q h1 ∧ JM h h1 G ou row S Bd ∧ ∀ u, 0 ≤ u → u < 8 → (bit (h1 121 45) u = 1 ↔ (bit (h 121 45) u = 1 ∨ (mk G node ≠ 2 ∧ bu u (S 0 node i j p q)))) := by
    by_cases hm : mk G node = 2
    · rw [if_pos hm]
      exact ⟨h, rfl, JM_rf hM hT hU, fun u _ _ => ⟨Or.inl, fun z => z.elim id (fun w => absurd hm w.1)⟩⟩
    · rw [if_neg hm]
      obtain ⟨h1, x1, J1, b1⟩ := Hs 0 node i j p q h Bd hh.1 (by have := fr_half (G := G) (node := node) (i := i) (j := j) (p := p) (q := q); omega) hg (by omega) Rp hM hT hU
      rw [x1, ob_some]
      exact ⟨h1, rfl, J1, fun u u0 u1 => (b1 u u0 u1).trans ⟨fun z => z.elim Or.inl (fun w => Or.inr ⟨hm, w⟩), fun z => z.elim Or.inl (fun w => Or.inr w.2)⟩⟩
  obtain ⟨h1, x1, J1, b1⟩ := start
  rw [x1]
  unfold M_meetsAbove_j22
  by_cases hm1 : mk G node = 1
  · have R1 := RepM_4 Rp J1.1
    have le : loopN (fun q' => M_meetsAbove_L25 (M_meets_G (e' + 1)) (e' + 1) 121 node i j p q q'.1 q'.2) LN (0, h1) = some h1 := by
      rw [show LN = 999999 + 1 from rfl]
      unfold loopN M_meetsAbove_L25
      simp only
      rw [if_pos kK_121, R1.2.1, ms_at R1.1 (show ((7 : Int), (125 : Int)) ∈ msL by decide), if_pos y7, (R1.2.2.2.2.1 node n0 n1).2.2.1]
      by_cases hz : nT G ≤ 0
      · rw [if_pos hz]
      · rw [if_neg hz, if_pos hm1]
    rw [le, ob_some]
    refine ⟨h1, rfl, J1, fun u u0 u1 => (b1 u u0 u1).trans (or_congr Iff.rfl ?_)⟩
    rw [uA u0 u1 I Q hi j8 hk hg]
    exact ⟨Or.inl, fun z => z.elim id (fun w => absurd hm1 w.1)⟩
  · obtain ⟨h2, x2, J2, b2⟩ := use_loop (body := fun q' => M_meetsAbove_L25 (M_meets_G (e' + 1)) (e' + 1) 121 node i j p q q'.1 q'.2) (lo := 0) (hi := nT G - 1) (T := fun t u => goB G ou t (lb G node) 1 = true ∧ ∃ a, (i ≤ a ∧ a ≤ (if p = -1 then j else p)) ∧ ∃ c, ((if p = -1 then a else q) ≤ c ∧ c ≤ j) ∧ (S 1 (ft G t) i j a c ≠ 0 ∧ S 0 node a c p q ≠ 0) ∧ (u = t ∨ bu u (S 1 (ft G t) i j a c) ∨ bu u (S 0 node a c p q))) (fun h2 => JM h h2 G ou row S Bd) (by omega) (by omega) J1 b1 (by
      intro t g Ta t0 t1 Jg hTa
      have Rg := RepM_4 Rp Jg.1
      simp only
      unfold M_meetsAbove_L25 M_meetsAbove_j185
      rw [if_pos kK_121, Rg.2.1, if_neg (by omega), ms_at Rg.1 (show ((7 : Int), (125 : Int)) ∈ msL by decide), if_pos y7, (Rg.2.2.2.2.1 node n0 n1).2.2.1, if_neg hm1, ms_at Rg.1 (show ((6 : Int), (124 : Int)) ∈ msL by decide), if_pos y6, (Rg.2.2.2.2.1 node n0 n1).2.1, M_mayGo_ok Rg W t0 (by omega), ob_some, show w32 (t + 1) = t + 1 by unfold w32; omega]
      cases hgo : goB G ou t (lb G node) 1
      · rw [if_pos (by decide)]
        exact ⟨g, rfl, Jg, fun u u0 u1 => (hTa u u0 u1).trans ⟨Or.inl, fun z => z.elim id (fun w => absurd w.1 Bool.false_ne_true)⟩⟩
      · have hs := (goB_spec hgo).1
        rw [if_neg (by decide)]
        obtain ⟨g2, x3, J3, b3⟩ := use_loop (body := fun q' => M_meetsAbove_L66 (M_meets_G (e' + 1)) (e' + 1) 121 node i j p q t q'.1 q'.2) (lo := i) (hi := if p = -1 then j else p) (T0 := Ta) (T := fun a u => ∃ c, ((if p = -1 then a else q) ≤ c ∧ c ≤ j) ∧ (S 1 (ft G t) i j a c ≠ 0 ∧ S 0 node a c p q ≠ 0) ∧ (u = t ∨ bu u (S 1 (ft G t) i j a c) ∨ bu u (S 0 node a c p q))) (fun h2 => JM h h2 G ou row S Bd) (by have := itm_span hi; split <;> omega) (by have := itm_span hi; split <;> omega) Jg hTa (by
          intro a g Ta a0 a1 Jg hTa
          simp only
          unfold M_meetsAbove_L66 M_meetsAbove_j80 M_meetsAbove_j96
          rw [if_neg (by omega), show w32 (a + 1) = a + 1 by have := itm_span hi; unfold w32; split at a1 <;> omega]
          obtain ⟨g3, x4, J4, b4⟩ := use_loop (body := fun q' => M_meetsAbove_L98 (M_meets_G (e' + 1)) (e' + 1) 121 node i j p q t a q'.1 q'.2) (lo := if p = -1 then a else q) (hi := j) (T0 := Ta) (T := fun c u => (S 1 (ft G t) i j a c ≠ 0 ∧ S 0 node a c p q ≠ 0) ∧ (u = t ∨ bu u (S 1 (ft G t) i j a c) ∨ bu u (S 0 node a c p q))) (fun h2 => JM h h2 G ou row S Bd) (by have := itm_span hi; split at a1 <;> split <;> omega) (by have := itm_span hi; split at a1 <;> split <;> omega) Jg hTa (by
            intro c g Ta c0 c1 Jg hTa
            have Rg := RepM_4 Rp Jg.1
            have sp' := itm_span hi
            obtain ⟨f1, f2, f3, -⟩ := around_items W hi t0 (show t < nT G by omega) hs a0 a1 c0 c1
            simp only
            unfold M_meetsAbove_L98 M_meetsAbove_j173
            obtain ⟨g1, x5, D1, M1⟩ := around_ok (e := e') (B := (e' : Int) - 4) W (by omega) (waysOf_spec W e') hi t0 (show t < nT G by omega) hs a0 a1 c0 c1 (by omega) Rg Jg.2.1
            obtain ⟨J5, e45⟩ := JM_144 Jg D1 M1
            have R5 := RepM_4 Rp J5.1
            rw [if_neg (by omega), if_pos kK_121]
            unfold M_waysAround
            rw [x5, ob_some, show w32 (c + 1) = c + 1 by unfold w32; omega]
            have zo : S 1 (ft G t) i j a c ≠ 0 ∧ S 0 node a c p q ≠ 0 ↔ wAround G (wW G ou row) node t a c i j p q ≠ 0 := by
              unfold wAround
              by_cases hr : nd G (ft G t) ≤ cov i j a c ∧ nd G node ≤ cov a c p q
              · have gq := gr_round I (node := node) (i := i) (j := j) (p := p) (q := q) t0 (show t < nT G by omega) hs f3
                have ga := (gr_nn I f2 hr.1).1
                have gb := (gr_nn I f1 hr.2).1
                rw [if_pos hr, Nat.mul_ne_zero_iff, Ne, Ne, S_z I Q f2 j8 (by omega), S_z I Q f1 (by omega) (by omega)]
                exact ⟨fun z => ⟨z.2, z.1⟩, fun z => ⟨z.2, z.1⟩⟩
              · rw [if_neg hr]
                constructor
                · intro z
                  exfalso
                  apply hr
                  refine ⟨Classical.byContradiction (fun w => z.1 ?_), Classical.byContradiction (fun w => z.2 ?_)⟩
                  · exact (Q _ _ _ _ _ _ f2 j8).2.1 (by omega)
                  · exact (Q _ _ _ _ _ _ f1 (by omega)).2.1 (by omega)
                · intro z; exact absurd rfl z
            dsimp only
            by_cases hz : wAround G (wW G ou row) node t a c i j p q = 0
            · rw [if_pos (capN_0.mpr hz)]
              exact ⟨g1, rfl, J5, fun u u0 u1 => by rw [e45]; exact (hTa u u0 u1).trans ⟨Or.inl, fun z => z.elim id (fun w => absurd hz (zo.mp w.1))⟩⟩
            · have zz := zo.mpr hz
              have hr : nd G (ft G t) ≤ cov i j a c ∧ nd G node ≤ cov a c p q := Classical.byContradiction (fun w => hz (by unfold wAround; rw [if_neg w]))
              have gq := gr_round I (node := node) (i := i) (j := j) (p := p) (q := q) t0 (show t < nT G by omega) hs f3
              have ga := (gr_nn I f2 hr.1).1
              have gb := (gr_nn I f1 hr.2).1
              obtain ⟨u1', u2'⟩ := around_fr W hi t0 (show t < nT G by omega) hs f1 f2 f3 hr.1 hr.2
              obtain ⟨m1', m2'⟩ := around_mu W hi t0 (show t < nT G by omega) hs f1 f2 f3 hr.1 hr.2
              obtain ⟨Jp, bp⟩ := JM_put J5 (t := t) t0 (by omega)
              have Rq := RepM_4 Rp Jp.1
              rw [if_neg (fun w => hz (capN_0.mp w)), M_root_ok Rq W t0 (by omega), ob_some]
              obtain ⟨g6, x6, J6, b6⟩ := Hs 1 (ft G t) i j a c _ Bd f2 (by omega) (by omega) (by omega) Rq Jp.2.1 Jp.2.2.1 Jp.2.2.2.2.1
              have J6' := JM_tr Jp J6
              have R6 := RepM_4 Rp J6'.1
              obtain ⟨g7, x7, J7, b7⟩ := Hs 0 node a c p q g6 Bd f1 (by omega) (by omega) (by omega) R6 J6'.2.1 J6'.2.2.1 J6'.2.2.2.2.1
              rw [x6, ob_some, x7, ob_some]
              refine ⟨g7, rfl, JM_tr J6' J7, fun u u0 u1 => ?_⟩
              rw [b7 u u0 u1, b6 u u0 u1, hput_eq, bp u u0 u1, e45, hTa u u0 u1]
              constructor
              · rintro (((z | z) | z) | z)
                · exact Or.inl z
                · exact Or.inr ⟨zz, Or.inl z⟩
                · exact Or.inr ⟨zz, Or.inr (Or.inl z)⟩
                · exact Or.inr ⟨zz, Or.inr (Or.inr z)⟩
              · rintro (z | ⟨-, z | z | z⟩)
                · exact Or.inl (Or.inl (Or.inl z))
                · exact Or.inl (Or.inl (Or.inr z))
                · exact Or.inl (Or.inr z)
                · exact Or.inr z) (by
            intro g Jg
            simp only
            unfold M_meetsAbove_L98
            rw [if_pos (by omega)])
          rw [x4, ob_some]
          exact ⟨g3, rfl, J4, b4⟩) (by
          intro g Jg
          simp only
          unfold M_meetsAbove_L66 M_meetsAbove_j80
          rw [if_pos (by omega)])
        rw [x3, ob_some]
        exact ⟨g2, rfl, J3, fun u u0 u1 => (b3 u u0 u1).trans ⟨fun z => z.elim Or.inl (fun w => Or.inr ⟨rfl, w⟩), fun z => z.elim Or.inl (fun w => Or.inr w.2)⟩⟩) (by
      intro g Jg
      have Rg := RepM_4 Rp Jg.1
      simp only
      unfold M_meetsAbove_L25
      rw [if_pos kK_121, Rg.2.1, if_pos (by omega)])
    rw [x2, ob_some]
    refine ⟨h2, rfl, J2, fun u u0 u1 => (b2 u u0 u1).trans ?_⟩
    rw [uA u0 u1 I Q hi j8 hk hg]
    unfold UA
    constructor
    · rintro ((z | z) | ⟨t, ht, z⟩)
      · exact Or.inl z
      · exact Or.inr (Or.inl z)
      · exact Or.inr (Or.inr ⟨hm1, t, ht, z⟩)
    · rintro (z | z | ⟨-, t, ht, z⟩)
      · exact Or.inl (Or.inl z)
      · exact Or.inl (Or.inr z)
      · exact Or.inr ⟨t, ht, z⟩
end
