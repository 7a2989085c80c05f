/-! marks and grammar keep what holds between calls -/
section
variable {h : Hp} {d : Nat}
theorem gmk_EnX {G : Gm} {x m : Int} (X : EnX G) : EnX (gmk G x m) := by
  obtain ⟨en, e1, e2⟩ := X
  have k0 : ∀ n, kd (gmk G x m) n = kd G n := fun n => gmk_ne (by decide)
  have k3 : ∀ n, c1 (gmk G x m) n = c1 G n := fun n => gmk_ne (by decide)
  have k4 : ∀ n, c2 (gmk G x m) n = c2 G n := fun n => gmk_ne (by decide)
  have k9 : ∀ n, ft (gmk G x m) n = ft G n := fun n => gmk_ne (by decide)
  have kT : nT (gmk G x m) = nT G := gmk_ne (by decide)
  have kN : nN (gmk G x m) = nN G := gmk_ne (by decide)
  refine ⟨en, fun n n0 n1 => ?_, fun t t0 t1 => ?_⟩
  · rw [k0, k3, k4]
    exact e1 n n0 (by rw [kN] at n1; exact n1)
  · rw [k9, k9]
    exact e2 t t0 (by rw [kT] at t1; exact t1)
theorem k_marks (I : Inv h) (t y m : Int) : Bth (X_marks 0 t y m h) (fun g => M_marks 121 t y m g) := by
  have I0 := I
  obtain ⟨P, G, o8, n, row, tl, tp, wl, wd, fk, fp, EX, J, I⟩ := I
  have hP := bx_P J.1
  rcases X_marks_ok J.1 t y m with ⟨c, e1⟩ | ⟨c, e1⟩
  · obtain ⟨x0, x1, -⟩ := inN_in (bx_W J.1) c.1
    generalize hx : ft G t + y = x at c e1 x0 x1
    by_cases hm : mk G x = m
    · rw [if_pos hm, hput_same (by rw [((bx_R J.1).2.2.2.2.2.1 x x0 x1).2.2.2.1]; exact hm)] at e1
      rcases M_marks_ok I.1 t y m with ⟨-, e2⟩ | ⟨c', -⟩
      · rw [hx, hput_same (by rw [(I.1.2.2.1.2.2.2.2.1 x x0 x1).2.2.1]; exact hm)] at e2
        exact ⟨_, h, h, e1, e2, I0⟩
      · rw [hx] at c'
        exact absurd c c'
    · rw [if_neg hm] at e1
      have e : ∀ z s, (z ≠ P + 5) → (z ≠ 0 ∨ s ≠ 17) → (hput (hput h (P + 5) x m) 0 17 0) z s = h z s := fun z s a b => by rw [hput_no b, hput_ne1 a]
      have e17 : (hput (hput h (P + 5) x m) 0 17 0) 0 17 = 0 := hput_eq ..
      have B1 : BX (hput (hput h (P + 5) x m) 0 17 0) P (gmk G x m) o8 n row := BX_vol (fun z s hv => hput_no (vol_17 hv)) (gmk_X J.1 x0 x1 c.2.2.2 c.2.1 c.2.2.1)
      generalize hput (hput h (P + 5) x m) 0 17 0 = h1 at e1 e e17 B1
      have hi : Hi h h1 := fun z s a => e z s (by omega) (by omega)
      have I1 := IM_hi I hi
      rcases M_marks_ok I1.1 t y m with ⟨-, e2⟩ | ⟨c', -⟩
      · rw [hx] at e2
        refine ⟨_, h1, _, e1, e2, P, gmk G x m, o8, n, row, tl, tp, wl, wd, fk, fp, gmk_EnX EX, IX_lo ⟨B1, Kn_0 e17, TapX_eq J.2.2.1 (e 1 1 (by omega) (by decide)) (fun i => e 2 i (by omega) (by omega)), TolX_eq J.2.2.2.1 (e 3 1 (by omega) (by decide)) (fun i => e 4 i (by omega) (by omega)), by rw [e 7 0 (by omega) (by decide)]; exact J.2.2.2.2.1, by rw [e 7 1 (by omega) (by decide)]; exact J.2.2.2.2.2⟩ (h' := hput h1 125 x m) (fun z s a => hput_ne1 (by omega)), gmk_M I1.1 x0 x1 c.2.2.2 c.2.1 c.2.2.1, ?_⟩
        obtain ⟨_, T, W, S, e59, f0, f1⟩ := I1
        have f : ∀ z s, z ≠ 125 → (hput h1 125 x m) z s = h1 z s := fun z s a => hput_ne1 a
        refine ⟨TapM_eq T (f 121 20 (by decide)) (fun i => f 135 i (by decide)), TolM_eq W (f 121 57 (by decide)) (f 121 56 (by decide)) (fun i => f 155 i (by decide)), fun q hq => ?_, by rw [f 121 59 (by decide)]; exact e59, by rw [f 121 27 (by decide)]; exact f0, by rw [f 121 28 (by decide)]; exact f1⟩
        rw [f 121 q.1 (by decide)]
        exact S q hq
      · rw [hx] at c'
        exact absurd c c'
  · rcases M_marks_ok I.1 t y m with ⟨c', -⟩ | ⟨-, e2⟩
    · exact absurd c' c
    · exact ⟨-2, h, h, e1, e2, I0⟩
theorem k_grammar (I : Inv h) (hd : 1960 ≤ d) : Bth (X_grammar 0 h) (fun g => M_grammar d 121 g) := by
  obtain ⟨P, G, o8, n, row, tl, tp, wl, wd, fk, fp, EX, J, I⟩ := I
  have hP := bx_P J.1
  obtain ⟨v, h1, e1, t1, Z⟩ := X_grammar_ok J.1 J.2.2.1
  have tb := J.2.2.1
  have TX : TapX h1 0 tp := ⟨t1, by decide, by decide, fun i i0 i1 => by omega⟩
  generalize hQ : 200 - P = Q at Z
  have rest : ∀ g' : Hp, MGF h1 g' → Hi h h1 → Lo h1 g' ∧ (TolM h wl wd → TolM g' wl wd) ∧ (SShp h → SShp g') ∧ g' 121 59 = h 121 59 := by
    intro g' F hi
    refine ⟨fun c s z => F c s (by omega) (by omega), fun W => TolM_eq W (by rw [F 121 57 (Or.inr (by decide)) (Or.inl (by decide)), hi 121 57 (by decide)]) (by rw [F 121 56 (Or.inr (by decide)) (Or.inl (by decide)), hi 121 56 (by decide)]) (fun i => by rw [F 155 i (Or.inl (by decide)) (Or.inr (by decide)), hi 155 i (by decide)]), fun S q hq => ?_, by rw [F 121 59 (Or.inr (by decide)) (Or.inl (by decide)), hi 121 59 (by decide)]⟩
    have : ∀ q ∈ ssL, q.1 ≠ 1 ∧ q.1 ≠ 2 ∧ q.1 ≠ 3 ∧ q.1 ≠ 11 ∧ q.1 ≠ 12 ∧ q.1 ≠ 20 ∧ q.1 ≠ 22 ∧ (q.1 < 23 ∨ 30 < q.1) := by decide
    rw [F 121 q.1 (Or.inr (this q hq)) (Or.inl (by decide)), hi 121 q.1 (by decide)]
    exact S q hq
  cases hg : gT tl tp 9 0 0 (blA tl tp 0) (fun _ => .zero) with
  | inl z =>
    rw [hg] at Z
    obtain ⟨z1, z0, z2, z3, B1, F1⟩ := Z
    have hi : Hi h h1 := fun c s a => F1 c s (by omega) (by omega) (by omega)
    have I1 := IM_hi I hi
    obtain ⟨v', g', e2, t2, F2, W2⟩ := M_grammar_ok (d := d) I1.1 I1.2.1 ⟨tb.2.1, tb.2.2.1⟩ (fun i i0 i1 => (tb.2.2.2 i i0 i1).2) I1.2.2.2.2.1 (by omega) (fun T N dd hh => by rw [hg] at hh; exact absurd hh (by simp))
    rw [hg] at W2
    obtain ⟨y1, y2, y3, Bm⟩ := W2
    obtain ⟨lo, wM, sM, r59⟩ := rest g' F2 hi
    rw [y1, ← z1] at e2
    have K1 : Kn h1 P G o8 n row := Kn_far hP J.2.1 (fun c s a => F1 c s (by omega) (by omega) (by omega))
    exact ⟨v, h1, g', e1, e2, P, G, o8, n, row, 0, tp, wl, wd, z.1, z.2, EX, IX_lo ⟨B1, K1, TX, TolX_eq J.2.2.2.1 (F1 3 1 (by decide) (by decide) (by omega)) (fun i => F1 4 i (by decide) (by omega) (by omega)), z2, z3⟩ lo, Bm, ⟨t2, fun i i0 i1 => by omega⟩, wM I.2.2.1, sM I.2.2.2.1, by rw [r59]; exact I.2.2.2.2.1, y2, y3⟩
  | inr z =>
    obtain ⟨T, N, dd⟩ := z
    rw [hg] at Z
    obtain ⟨z1, z2, z3, z4, F1, G', B1, K, kT, kN⟩ := Z
    have hi : Hi h h1 := fun c s a => F1 c s (by omega) (by omega) (by omega) (by omega)
    have I1 := IM_hi I hi
    obtain ⟨v', g', e2, t2, F2, W2⟩ := M_grammar_ok (d := d) I1.1 I1.2.1 ⟨tb.2.1, tb.2.2.1⟩ (fun i i0 i1 => (tb.2.2.2 i i0 i1).2) I1.2.2.2.2.1 (by omega) (fun T' N' dd' hh => by
      rw [hg] at hh
      injection hh with hh
      injection hh with a b
      injection b with b c
      subst a
      subst b
      subst c
      exact ⟨G', K, kT, kN⟩)
    rw [hg] at W2
    obtain ⟨y1, y2, y3, Bm⟩ := W2
    obtain ⟨lo, wM, sM, r59⟩ := rest g' F2 hi
    rw [y1, ← z1] at e2
    exact ⟨v, h1, g', e1, e2, Q, G', 0, n, row, 0, tp, wl, wd, 0, -1, GOK_EnX K, IX_lo ⟨B1, Kn_0 z4, TX, TolX_eq J.2.2.2.1 (F1 3 1 (by decide) (by decide) (by decide) (by omega)) (fun i => F1 4 i (by decide) (by omega) (by omega) (by omega)), z2, z3⟩ lo, Bm G' K kT kN, ⟨t2, fun i i0 i1 => by omega⟩, wM I.2.2.1, sM I.2.2.2.1, by rw [r59]; exact I.2.2.2.2.1, y2, y3⟩
end
