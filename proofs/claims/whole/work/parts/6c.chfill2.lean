/-! the class: fill, whole -/
theorem JA_fillJR_ok {a lo hi v : Int} {h : Hp} (ha : kK a = 22) (h0 : 0 ≤ lo) (h1 : lo ≤ hi) (h2 : hi ≤ kL a) (h3 : kL a ≤ 100000) : ∃ h', JA_fillJR a lo hi v h = some h' ∧ ∀ c s, h' c s = if c = a ∧ lo ≤ s ∧ s < hi then v else h c s := by
  obtain ⟨r, e, p⟩ := loop_ok (body := fun q => JA_fillJR_L10 a hi v q.1 q.2) (fun s => lo ≤ s.1 ∧ s.1 ≤ hi ∧ ∀ c k, s.2 c k = if c = a ∧ lo ≤ k ∧ k < s.1 then v else h c k) (fun s => (hi - s.1).toNat) (fun r => ∀ c s, r c s = if c = a ∧ lo ≤ s ∧ s < hi then v else h c s) (by
    rintro ⟨x, g⟩ ⟨x0, x1, hg⟩
    simp only at x0 x1 hg
    unfold JA_fillJR_L10
    by_cases hx : hi ≤ x
    · right
      refine ⟨g, by simp only; rw [if_pos hx], ?_⟩
      rw [show hi = x by omega]
      exact hg
    · left
      refine ⟨(x + 1, hput g a x v), by simp only; rw [if_neg hx, if_pos ⟨ha, by omega, by omega⟩, show w32 (x + 1) = x + 1 by unfold w32; omega], ⟨by simp only; omega, by simp only; omega, ?_⟩, by simp only; omega⟩
      intro c k
      simp only
      unfold hput
      by_cases hc : c = a ∧ k = x
      · rw [if_pos hc, if_pos ⟨hc.1, by omega, by omega⟩]
      · rw [if_neg hc, hg]
        by_cases hd : c = a ∧ lo ≤ k ∧ k < x
        · rw [if_pos hd, if_pos ⟨hd.1, hd.2.1, by omega⟩]
        · rw [if_neg hd, if_neg]
          rintro ⟨z1, z2, z3⟩
          exact hd ⟨z1, z2, by have : ¬ k = x := fun y => hc ⟨z1, y⟩
                               omega⟩) LN (lo, h) ⟨Int.le_refl _, h1, fun c k => by rw [if_neg (by simp only; omega)]⟩ (by unfold LN; simp only; omega)
  refine ⟨r, ?_, p⟩
  unfold JA_fillJR JA_rangeCheck
  rw [if_pos ha, if_pos h1, if_pos h0, if_pos h2, ob_some, e, ob_some]
section
variable {h : Hp} {o P sz : Int} {G : Gm} {ou : Int → Bool} {A : Ag} {V : Int → Prop} {S : SV} {D : SD}
theorem Ch_clear_ok (E : Ev h o P G sz ou A V) : ∃ h', Ch_clear o h = some h' ∧ Off o h h' ∧ (∀ r x, 0 ≤ r → r < 2 * nN G → 0 ≤ x → x < sJ (sz + 1) → h' (o + 15) (r * 495 + x) = 0) ∧ (∀ t x, 0 ≤ t → t < nT G → 0 ≤ x → x < sJ (sz + 1) → h' (o + 16) (t * 495 + x) = 0) := by
  have W := E.1
  have C := E.2.2.1
  have R := E.2.1
  have kc := ChO_k C.1
  have kg := (GrO_k R.1).1
  have nn := wf_nn W
  have nt := wf_nt W
  have z0 := C.2.2.2.2.2.1
  have z8 := C.2.2.2.2.2.2
  have u := s_in (a := sz + 1) (by omega) (by omega)
  have e1 : h P 1 = nN G := R.2.2.2.1
  have e0 : h P 0 = nT G := R.2.2.1
  obtain ⟨oP, oo1, oo2⟩ := off_P C.1 R.1
  have rd : ∀ g, Off o h g → g o 0 = P ∧ g o 4 = o + 15 ∧ g o 5 = o + 16 ∧ g P 1 = nN G ∧ g P 0 = nT G := by
    intro g hg
    have hp := oP 0 (by omega) (by omega)
    rw [Int.add_zero] at hp
    rw [hg o 0 oo1 oo2, hg o 4 oo1 oo2, hg o 5 oo1 oo2, hg P 1 hp.1 hp.2, hg P 0 hp.1 hp.2]
    exact ⟨C.2.1, C.2.2.2.1, C.2.2.2.2.1, e1, e0⟩
  obtain ⟨g1, ge1, go1, gz1⟩ := loop_ok (body := fun q => Ch_clear_L13 o (sJ (sz + 1)) q.1 q.2) (fun s => 0 ≤ s.1 ∧ s.1 ≤ 2 * nN G ∧ Off o h s.2 ∧ ∀ r x, 0 ≤ r → r < s.1 → 0 ≤ x → x < sJ (sz + 1) → s.2 (o + 15) (r * 495 + x) = 0) (fun s => (2 * nN G - s.1).toNat) (fun g => Off o h g ∧ ∀ r x, 0 ≤ r → r < 2 * nN G → 0 ≤ x → x < sJ (sz + 1) → g (o + 15) (r * 495 + x) = 0) (by
    rintro ⟨k, g⟩ ⟨k0, k1, hg, hz⟩
    simp only at k0 k1 hg hz
    obtain ⟨r0, r4, r5, rn, rt⟩ := rd g hg
    have w2 : w32 (2 * nN G) = 2 * nN G := by unfold w32; omega
    simp only
    unfold Ch_clear_L13
    rw [if_pos kc.1, r0, if_pos kg, rn, w2, r4]
    by_cases hk : 2 * nN G ≤ k
    · right
      exact ⟨g, by rw [if_pos hk], hg, fun r x a b c d => hz r x a (by omega) c d⟩
    · left
      have w1 : w32 (k * 495) = k * 495 := by unfold w32; omega
      have w3 : w32 (k * 495 + sJ (sz + 1)) = k * 495 + sJ (sz + 1) := by unfold w32; omega
      obtain ⟨g', e, hp⟩ := JA_fillJR_ok (v := 0) (h := g) kc.2.1.1 (show 0 ≤ k * 495 by omega) (show k * 495 ≤ k * 495 + sJ (sz + 1) by omega) (by rw [kc.2.1.2]; omega) (by rw [kc.2.1.2]; omega)
      refine ⟨(k + 1, g'), by rw [if_neg hk, w1, w3, e, ob_some, show w32 (k + 1) = k + 1 by unfold w32; omega], ⟨by simp only; omega, by simp only; omega, ?_, ?_⟩, by simp only; omega⟩
      · intro c s h1 h2
        simp only
        rw [hp, if_neg (fun z => h1 z.1)]
        exact hg c s h1 h2
      · intro r x ra rb xa xb
        simp only at rb ⊢
        rw [hp]
        by_cases hr : r = k
        · subst hr
          rw [if_pos ⟨rfl, by omega, by omega⟩]
        · rw [if_neg (by omega)]
          exact hz r x ra (by omega) xa xb) LN (0, h) ⟨Int.le_refl _, by simp only; omega, Off.rf, fun r x a b => by simp only at b; omega⟩ (by unfold LN; simp only; omega)
  obtain ⟨g2, ge2, go2, ga2, gz2⟩ := loop_ok (body := fun q => Ch_clear_L54 o (sJ (sz + 1)) q.1 q.2) (fun s => 0 ≤ s.1 ∧ s.1 ≤ nT G ∧ Off o h s.2 ∧ (∀ x, s.2 (o + 15) x = g1 (o + 15) x) ∧ ∀ r x, 0 ≤ r → r < s.1 → 0 ≤ x → x < sJ (sz + 1) → s.2 (o + 16) (r * 495 + x) = 0) (fun s => (nT G - s.1).toNat) (fun g => Off o h g ∧ (∀ x, g (o + 15) x = g1 (o + 15) x) ∧ ∀ r x, 0 ≤ r → r < nT G → 0 ≤ x → x < sJ (sz + 1) → g (o + 16) (r * 495 + x) = 0) (by
    rintro ⟨k, g⟩ ⟨k0, k1, hg, ha, hz⟩
    simp only at k0 k1 hg ha hz
    obtain ⟨r0, r4, r5, rn, rt⟩ := rd g hg
    simp only
    unfold Ch_clear_L54
    rw [if_pos kc.1, r0, if_pos kg, rt, r5]
    by_cases hk : nT G ≤ k
    · right
      exact ⟨g, by rw [if_pos hk], hg, ha, fun r x a b c d => hz r x a (by omega) c d⟩
    · left
      have w1 : w32 (k * 495) = k * 495 := by unfold w32; omega
      have w3 : w32 (k * 495 + sJ (sz + 1)) = k * 495 + sJ (sz + 1) := by unfold w32; omega
      obtain ⟨g', e, hp⟩ := JA_fillJR_ok (v := 0) (h := g) kc.2.2.1 (show 0 ≤ k * 495 by omega) (show k * 495 ≤ k * 495 + sJ (sz + 1) by omega) (by rw [kc.2.2.2]; omega) (by rw [kc.2.2.2]; omega)
      refine ⟨(k + 1, g'), by rw [if_neg hk, w1, w3, e, ob_some, show w32 (k + 1) = k + 1 by unfold w32; omega], ⟨by simp only; omega, by simp only; omega, ?_, ?_, ?_⟩, by simp only; omega⟩
      · intro c s h1 h2
        simp only
        rw [hp, if_neg (fun z => h2 z.1)]
        exact hg c s h1 h2
      · intro x
        simp only
        rw [hp, if_neg (by omega)]
        exact ha x
      · intro r x ra rb xa xb
        simp only at rb ⊢
        rw [hp]
        by_cases hr : r = k
        · subst hr
          rw [if_pos ⟨rfl, by omega, by omega⟩]
        · rw [if_neg (by omega)]
          exact hz r x ra (by omega) xa xb) LN (0, g1) ⟨Int.le_refl _, by simp only; omega, go1, fun _ => rfl, fun r x a b => by simp only at b; omega⟩ (by unfold LN; simp only; omega)
  refine ⟨g2, ?_, go2, fun r x a b c d => by rw [ga2]; exact gz1 r x a b c d, gz2⟩
  unfold Ch_clear
  rw [C.2.2.1, show w32 (sz + 1) = sz + 1 by unfold w32; omega, if_pos kc.1, if_pos ⟨by omega, by omega⟩, ge1, ob_some, ge2, ob_some]
/-- nothing is done yet -/
theorem Tab_none (E : Ev h o P G sz ou A V) (z1 : ∀ r x, 0 ≤ r → r < 2 * nN G → 0 ≤ x → x < sJ (sz + 1) → h (o + 15) (r * 495 + x) = 0) (z2 : ∀ t x, 0 ≤ t → t < nT G → 0 ≤ x → x < sJ (sz + 1) → h (o + 16) (t * 495 + x) = 0) : Tab h o P G sz ou A S (fun _ _ _ _ _ _ => false) := by
  have W := E.1
  have C := E.2.2.1
  have R := E.2.1
  have nt := wf_nt W
  have z8 := C.2.2.2.2.2.2
  have tz : ∀ half node i j p q, (half = 0 ∨ half = 1) → 0 ≤ node → node < nN G → 0 ≤ i → i ≤ p → p ≤ q → q ≤ j → j ≤ sz → tv h o G half node i j p q = 0 := by
    intro half node i j p q hh n0 n1 i0 ip pq qj hj
    have k := cI_in i0 ip pq qj (by omega) (n := sz + 1) (by omega) (by omega)
    unfold tv rwN
    apply z1
    · split <;> omega
    · split <;> omega
    · exact k.1
    · exact k.2
  refine ⟨?_, ?_, ?_⟩
  · intro half node i j p q hi hj
    have ci := cc_in hi
    rw [if_neg (fun z => by have := z.2; exact absurd this Bool.false_ne_true)]
    exact tz half node i j _ _ hi.1 hi.2.1 hi.2.2.1 ci.1 ci.2.1 ci.2.2.1 ci.2.2.2 hj
  · intro half node i j p q hh n0 n1 s0 i0 ip pq qj hj hne
    exact tz half node i j p q hh n0 n1 i0 ip pq qj hj
  · intro t l i j a b t0 t1 hg i0 ia ab bj hj
    have g := goB_spec hg
    have r := root_in W t0 t1
    have kr := (wf_root W t0 t1).1
    have ll := (wf_lb W r.1 r.2.1).1 (by omega)
    rw [g.2.1] at ll
    have hb := fun t t0 t1 => (R.2.2.2.2.2.2.1 l ll.1 ll.2 t t0 t1).2
    have hr := R.2.2.2.2.2.2.2.1 l ll.1 ll.2
    have k := cI_in i0 ia ab bj (by omega) (n := sz + 1) (by omega) (by omega)
    have b1 := hb t t0 (by omega)
    rw [if_pos ⟨t1, g.1, g.2.1⟩] at b1
    have xpos : 0 < h (P + 13) l := by
      rcases Int.lt_or_eq_of_le hr.2.2.1 with z | z
      · exact z
      · exfalso
        rw [← z] at b1
        have q : ∀ t : Fin 8, bit 0 (t.val : Int) = 0 := by decide +kernel
        have := q ⟨t.toNat, by omega⟩
        simp only at this
        rw [show ((t.toNat : Nat) : Int) = t by omega] at this
        omega
    obtain ⟨v, v0, v1, ev, bv⟩ := ntz_ok xpos hr.2.2.2
    have vT : v < nT G := by
      have := hb v v0 v1
      rw [bv] at this
      by_cases q : v < nT G ∧ sp G (ft G v) = 1 ∧ lb G (ft G v) = l
      · exact q.1
      · rw [if_neg q] at this; omega
    have e0 : gRo (h (P + 13) l) = v * 495 := by
      unfold gRo
      rw [ev]; rfl
    rw [e0, z2 v _ v0 vT k.1 k.2]
    unfold gSum
    symm
    apply aI_zero E.2.2.2.1
    intro u _ _
    rw [Bool.and_false]
    rfl
theorem fill_row (E : Ev h o P G sz ou A V) (Q : AEq G ou A V sz S) (hU : UpR G) {c : Int} (T : Tab h o P G sz ou A S (dC (h (P + 11)) c 0)) (c0 : 0 ≤ c) (c1 : c ≤ sz) :
    ∃ h', Ch_fill_L28 o c h = some (.inl (c + 1, h')) ∧ Off o h h' ∧ Tab h' o P G sz ou A S (dC (h (P + 11)) (c + 1) 0) := by
  have W := E.1
  have C := E.2.2.1
  have R := E.2.1
  have kc := ChO_k C.1
  have kg := (GrO_k R.1).1
  have nn := wf_nn W
  have z8 := C.2.2.2.2.2.2
  obtain ⟨oP, oo1, oo2⟩ := off_P C.1 R.1
  have surj := R.2.2.2.2.2.2.2.2.2.1
  obtain ⟨g, ge, go, gt⟩ := loop_ok (body := fun q => Ch_fill_L40 o c q.1 q.2) (fun s => 0 ≤ s.1 ∧ s.1 ≤ nN G ∧ Off o h s.2 ∧ Tab s.2 o P G sz ou A S (dC (h (P + 11)) c s.1)) (fun s => (nN G - s.1).toNat) (fun g => Off o h g ∧ Tab g o P G sz ou A S (dC (h (P + 11)) c (nN G))) (by
    rintro ⟨k, g⟩ ⟨k0, k1, hg, ht⟩
    simp only at k0 k1 hg ht
    have E' := E.off hg
    have e11 : g (P + 11) = h (P + 11) := by
      funext s
      exact hg _ s (oP 11 (by omega) (by omega)).1 (oP 11 (by omega) (by omega)).2
    simp only
    by_cases hk : k < nN G
    · left
      rw [← e11] at ht ⊢
      obtain ⟨g', e, ho, ht'⟩ := fill_node E' Q hU ht c0 c1 k0 hk
      exact ⟨(k + 1, g'), e, ⟨by simp only; omega, by simp only; omega, hg.tr ho, ht'⟩, by simp only; omega⟩
    · right
      refine ⟨g, ?_, hg, ?_⟩
      · unfold Ch_fill_L40
        rw [if_pos kc.1, E'.2.2.1.2.1, if_pos kg, E'.2.1.2.2.2.1, if_pos (by omega)]
      · rw [show nN G = k by omega]; exact ht) LN (0, h) ⟨Int.le_refl _, by simp only; omega, Off.rf, T⟩ (by unfold LN; simp only; omega)
  refine ⟨g, ?_, go, Tab_congr (E.off go) gt ?_⟩
  · unfold Ch_fill_L28
    rw [if_pos kc.1, C.2.2.1, if_neg (by omega), ge, ob_some, show w32 (c + 1) = c + 1 by unfold w32; omega]
  · intro half node i j p q hi hj _
    left
    apply b_eq
    rw [dC_iff, dC_iff]
    constructor
    · rintro (z | ⟨z, -⟩)
      · left; omega
      · left; omega
    · rintro (z | ⟨z, x, x0, x1, e⟩)
      · by_cases hz : cov i j p q < c
        · exact Or.inl hz
        · right
          obtain ⟨x, x0, x1, e⟩ := surj node hi.2.1 hi.2.2.1
          exact ⟨by omega, x, x0, x1, e⟩
      · omega
theorem fill_rest (E : Ev h o P G sz ou A V) (Q : AEq G ou A V sz S) (hU : UpR G) : ∃ h', ob (Ch_clear o h) (fun r => ob (loopN (fun q => Ch_fill_L28 o q.1 q.2) LN (0, r)) (fun e => some e)) = some h' ∧ Off o h h' ∧ Tab h' o P G sz ou A S dT := by
  have W := E.1
  have C := E.2.2.1
  have R := E.2.1
  have kc := ChO_k C.1
  have z0 := C.2.2.2.2.2.1
  have z8 := C.2.2.2.2.2.2
  obtain ⟨oP, oo1, oo2⟩ := off_P C.1 R.1
  obtain ⟨g1, e1, o1, z1, z2⟩ := Ch_clear_ok E
  have T0 := Tab_none (S := S) (E.off o1) z1 z2
  have T1 : Tab g1 o P G sz ou A S (dC (h (P + 11)) 0 0) := by
    refine Tab_congr (E.off o1) T0 ?_
    intro half node i j p q hi hj _
    left
    symm
    cases hd : dC (h (P + 11)) 0 0 half node i j p q
    · rfl
    · have c0 := cov_in hi
      rcases dC_iff.1 hd with z | ⟨z, x, x0, x1, -⟩
      · omega
      · omega
  obtain ⟨g, ge, go, gt⟩ := loop_ok (body := fun q => Ch_fill_L28 o q.1 q.2) (fun s => 0 ≤ s.1 ∧ s.1 ≤ sz + 1 ∧ Off o h s.2 ∧ Tab s.2 o P G sz ou A S (dC (h (P + 11)) s.1 0)) (fun s => (sz + 1 - s.1).toNat) (fun g => Off o h g ∧ Tab g o P G sz ou A S (dC (h (P + 11)) (sz + 1) 0)) (by
    rintro ⟨k, g⟩ ⟨k0, k1, hg, ht⟩
    simp only at k0 k1 hg ht
    have E' := E.off hg
    have e11 : g (P + 11) = h (P + 11) := by
      funext s
      exact hg _ s (oP 11 (by omega) (by omega)).1 (oP 11 (by omega) (by omega)).2
    simp only
    by_cases hk : k ≤ sz
    · left
      rw [← e11] at ht ⊢
      obtain ⟨g', e, ho, ht'⟩ := fill_row E' Q hU ht k0 hk
      exact ⟨(k + 1, g'), e, ⟨by simp only; omega, by simp only; omega, hg.tr ho, ht'⟩, by simp only; omega⟩
    · right
      refine ⟨g, ?_, hg, ?_⟩
      · unfold Ch_fill_L28
        rw [if_pos kc.1, E'.2.2.1.2.2.1, if_pos (by omega)]
      · rw [show sz + 1 = k by omega]; exact ht) LN (0, g1) ⟨Int.le_refl _, by simp only; omega, o1, T1⟩ (by unfold LN; simp only; omega)
  refine ⟨g, by rw [e1, ob_some, ge, ob_some], go, Tab_congr (E.off go) gt ?_⟩
  intro half node i j p q hi hj _
  left
  show dC (h (P + 11)) (sz + 1) 0 half node i j p q = true
  rw [dC_iff]
  left
  have := cov_j hi
  have i0 := hi.2.2.2.1
  omega
/-- a chart is filled -/
theorem Ch_fill_ok {ab al : Int} (ho : ChO o) (E : Ev (hput (hput (hput (hput h o 0 P) o 2 ab) o 1 sz) o 3 al) o P G sz ou A V) (Q : AEq G ou A V sz S) (hU : UpR G) :
    ∃ h', Ch_fill o P ab sz al h = some h' ∧ Off o (hput (hput (hput (hput h o 0 P) o 2 ab) o 1 sz) o 3 al) h' ∧ Ev h' o P G sz ou A V ∧ Tab h' o P G sz ou A S dT := by
  obtain ⟨g, e, go, gt⟩ := fill_rest E Q hU
  refine ⟨g, ?_, go, E.off go, gt⟩
  unfold Ch_fill
  rw [if_pos (ChO_k ho).1]
  exact e
end
