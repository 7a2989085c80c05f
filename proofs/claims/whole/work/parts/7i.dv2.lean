/-! what a tree of a way is made of; how great it is -/
def dst : Dv → Nat
  | .zero => 0
  | .var _ => 0
  | .neg d => dst d
  | .intMul _ d => dst d + 1
  | .natMul _ d => dst d
  | .add x y => dst x + dst y
  | .sub x y => dst x + dst y
def dvS : Dv → Nat
  | .zero => 1
  | .var _ => 1
  | .neg d => dvS d + 1
  | .intMul _ d => dvS d + 1
  | .natMul _ d => dvS d + 1
  | .add x y => dvS x + dvS y + 1
  | .sub x y => dvS x + dvS y
section
variable {G : Gm} {ou : Int → Bool} {row : Int → Int} {half node i j p q : Int} {k : Nat}
theorem w_cov (W : WF G) (h : itm G half node i j p q) (hk : k < wW G ou row half node i j p q) : nd G node ≤ cov i j p q := by
  refine Classical.byContradiction (fun z => ?_)
  rw [wW_z W h (by omega)] at hk
  exact Nat.not_lt_zero _ hk
theorem inv_x {x : Dv} {t a c : Int} (N : Nth G ou row x 2 t i j a c k) : ∃ o, x = .intMul t o ∧ Nth G ou row o 1 (ft G t) i j a c k := by
  cases x with
  | zero => exact absurd rfl N.1
  | var _ => exact False.elim N
  | neg d => exact absurd N.1 (by decide)
  | natMul _ d => exact absurd N.1 (by decide)
  | add x y => exact absurd N.1 (by decide)
  | sub x y => exact absurd N.1 (by decide)
  | intMul t' o =>
    rcases N with ⟨-, e, n⟩ | ⟨z, -⟩
    · subst e; exact ⟨o, rfl, n⟩
    · exact absurd rfl z
theorem inv_place (I : GIn G) (h : itm G half node i j p q) {t : Int} {d : Dv} (N : Nth G ou row (.intMul t d) half node i j p q k) : kd G node = 4 ∧ p = -1 ∧ q = -1 ∧ ∃ k', Pick (fH G ou row (lb G node) i j) 0 (nT G - 1) k t k' ∧ 0 ≤ t ∧ t < nT G ∧ goB G ou t (lb G node) 0 = true ∧ sp G (ft G t) = 0 ∧ itm G 1 (ft G t) i j (-1) (-1) ∧ k' < wW G ou row 1 (ft G t) i j (-1) (-1) ∧ Nth G ou row d 1 (ft G t) i j (-1) (-1) k' ∧ fr G 1 (ft G t) i j (-1) (-1) + 4 ≤ fr G half node i j p q ∧ gr G (ft G t) i j (-1) (-1) + 1 ≤ gr G node i j p q := by
  have W := I.1
  have h2 : half ≠ 2 := by have := h.1; omega
  rcases N with ⟨z, -⟩ | ⟨-, k4, k', P, n⟩
  · exact absurd z h2
  obtain ⟨hg, hk'⟩ := fH_pos P.2.2.2
  have t0 := P.1
  have t1 : t < nT G := by have := P.2.1; omega
  have hs := (goB_spec hg).1
  obtain ⟨f1, f2, ep, eq⟩ := place_item W h k4 t0 t1 hs
  have ht : turn G (ft G t) < turn G node := by
    have hpl := wf_place W h.2.1 h.2.2.1 k4
    have hnd := (wf_nd W h.2.1 h.2.2.1).2.2.1 (by omega)
    have : turn G node = 2 := by
      unfold turn
      rw [if_neg (by omega), if_neg (by omega)]
    rw [this, turn_root W t0 t1]
    split <;> omega
  have hfr := fr_turn (i' := i) (j' := j) (p' := -1) (q' := -1) W h t0 t1 ht (by rw [ep, eq])
  exact ⟨k4, ep, eq, k', P, t0, t1, hg, hs, f1, hk', n, hfr, gr_place I h.2.1 h.2.2.1 k4 t0 t1 ep eq⟩
theorem inv_guest (I : GIn G) (h : itm G 1 node i j p q) {x d : Dv} (N : Nth G ou row (.sub x d) 1 node i j p q k) : kd G node = 0 ∧ mk G node ≠ 1 ∧ bare G ou row node i j p q ≤ k ∧ ∃ t k1 a k2 c k3 o, x = .intMul t o ∧ Pick (fT G ou row node i j p q) 0 (nT G - 1) (k - bare G ou row node i j p q) t k1 ∧ Pick (fA G ou row node i j p q t) i (if p = -1 then j else p) k1 a k2 ∧ Pick (fC G ou row node i j p q t a) (if p = -1 then a else q) j k2 c k3 ∧ 0 ≤ t ∧ t < nT G ∧ goB G ou t (lb G node) 1 = true ∧ sp G (ft G t) = 1 ∧ itm G 0 node a c p q ∧ itm G 1 (ft G t) i j a c ∧ k3 / wW G ou row 0 node a c p q < wW G ou row 1 (ft G t) i j a c ∧ k3 % wW G ou row 0 node a c p q < wW G ou row 0 node a c p q ∧ Nth G ou row o 1 (ft G t) i j a c (k3 / wW G ou row 0 node a c p q) ∧ Nth G ou row d 0 node a c p q (k3 % wW G ou row 0 node a c p q) ∧ fr G 0 node a c p q + 4 ≤ fr G 1 node i j p q ∧ fr G 1 (ft G t) i j a c + 4 ≤ fr G 1 node i j p q ∧ gr G (ft G t) i j a c + 1 + gr G node a c p q ≤ gr G node i j p q := by
  have W := I.1
  obtain ⟨-, k0, m1, hb, t, k1, a, k2, c, k3, P1, P2, P3, nx, n⟩ := N
  obtain ⟨o, ex, no⟩ := inv_x nx
  obtain ⟨hg, hk1⟩ := fT_pos P1.2.2.2
  have hs := (goB_spec hg).1
  have t0 := P1.1
  have t1 : t < nT G := by have := P1.2.1; omega
  obtain ⟨r1, r2, r3⟩ := fC_pos P3.2.2.2
  obtain ⟨f1, f2, f3, -⟩ := around_items W h t0 t1 hs P2.1 P2.2.1 P3.1 P3.2.1
  obtain ⟨u1, u2⟩ := around_fr W h t0 t1 hs f1 f2 f3 r1.1 r1.2
  exact ⟨k0, m1, hb, t, k1, a, k2, c, k3, o, ex, P1, P2, P3, t0, t1, hg, hs, f1, f2, r2, r3, no, n, u1, u2, gr_round I t0 t1 hs f3⟩
theorem inv_split (I : GIn G) (h : itm G 0 node i j p q) {x y : Dv} (N : Nth G ou row (.add x y) 0 node i j p q k) : kd G node = 0 ∧ c2 G node ≠ -1 ∧ ∃ m k1, Pick (fS G ou row node i j p q) i j k m k1 ∧ i ≤ m ∧ m ≤ j ∧ ¬ (sp G (c1 G node) = 1 ∧ m < q) ∧ ¬ (sp G (c2 G node) = 1 ∧ p < m) ∧ itm G 1 (c1 G node) i m (gp (sp G (c1 G node)) p) (gp (sp G (c1 G node)) q) ∧ itm G 1 (c2 G node) m j (gp (sp G (c2 G node)) p) (gp (sp G (c2 G node)) q) ∧
    k1 / wW G ou row 1 (c2 G node) m j (gp (sp G (c2 G node)) p) (gp (sp G (c2 G node)) q) < wW G ou row 1 (c1 G node) i m (gp (sp G (c1 G node)) p) (gp (sp G (c1 G node)) q) ∧ k1 % wW G ou row 1 (c2 G node) m j (gp (sp G (c2 G node)) p) (gp (sp G (c2 G node)) q) < wW G ou row 1 (c2 G node) m j (gp (sp G (c2 G node)) p) (gp (sp G (c2 G node)) q) ∧
    Nth G ou row x 1 (c1 G node) i m (gp (sp G (c1 G node)) p) (gp (sp G (c1 G node)) q) (k1 / wW G ou row 1 (c2 G node) m j (gp (sp G (c2 G node)) p) (gp (sp G (c2 G node)) q)) ∧ Nth G ou row y 1 (c2 G node) m j (gp (sp G (c2 G node)) p) (gp (sp G (c2 G node)) q) (k1 % wW G ou row 1 (c2 G node) m j (gp (sp G (c2 G node)) p) (gp (sp G (c2 G node)) q)) ∧
    fr G 1 (c1 G node) i m (gp (sp G (c1 G node)) p) (gp (sp G (c1 G node)) q) + 4 ≤ fr G 0 node i j p q ∧ fr G 1 (c2 G node) m j (gp (sp G (c2 G node)) p) (gp (sp G (c2 G node)) q) + 4 ≤ fr G 0 node i j p q ∧ gr G (c1 G node) i m (gp (sp G (c1 G node)) p) (gp (sp G (c1 G node)) q) + gr G (c2 G node) m j (gp (sp G (c2 G node)) p) (gp (sp G (c2 G node)) q) = gr G node i j p q := by
  have W := I.1
  obtain ⟨-, k0, c2', m, k1, P, nx, ny⟩ := N
  obtain ⟨r1, r2, r3⟩ := fS_pos P.2.2.2
  obtain ⟨f1, f2, f3⟩ := split_items W h k0 c2' P.1 P.2.1 r1.1 r1.2.1
  obtain ⟨u1, u2⟩ := split_fr W h k0 c2' f1 f2 f3 r1.2.2.1 r1.2.2.2
  exact ⟨k0, c2', m, k1, P, P.1, P.2.1, r1.1, r1.2.1, f1, f2, r2, r3, nx, ny, u1, u2, gr_split I h.2.1 h.2.2.1 k0 c2' f3⟩
theorem inv_unary (I : GIn G) (h : itm G 0 node i j p q) {d : Dv} {n : Nat} (hk : k < wW G ou row 0 node i j p q) (N : Nth G ou row (.natMul n d) 0 node i j p q k) : kd G node = 0 ∧ c2 G node = -1 ∧ itm G 1 (c1 G node) i j p q ∧ k < wW G ou row 1 (c1 G node) i j p q ∧ Nth G ou row d 1 (c1 G node) i j p q k ∧ fr G 1 (c1 G node) i j p q + 4 ≤ fr G 0 node i j p q ∧ gr G (c1 G node) i j p q = gr G node i j p q := by
  have W := I.1
  obtain ⟨-, k0, c2', n⟩ := N
  obtain ⟨f1, -⟩ := unary_item W h k0 c2'
  have n0 := h.2.1
  have n1 := h.2.2.1
  have hch := wf_ch W n0 n1 k0
  have dn := (wf_nd W n0 n1).2.2.2.1 k0
  rw [if_pos c2'] at dn
  have hfr := fr_child (i := i) (j := j) (p := p) (q := q) (i' := i) (j' := j) (p' := p) (q' := q) W n0 n1 hch.1 hch.2.1 (by omega) rfl
  rw [wLeaf_eq W h (Or.inr ⟨rfl, c2'⟩)] at hk
  unfold wBelow at hk
  rw [if_neg (by omega), if_neg (by omega), if_neg (by omega), if_neg (by omega), if_pos c2'] at hk
  exact ⟨k0, c2', f1, hk, n, hfr, gr_unary I n0 n1 k0 c2'⟩
end
section
variable {G : Gm} {ou : Int → Bool} {row : Int → Int}
/-- at most so many steps, so many turns -/
theorem Nth_bd (I : GIn G) {en : Int → Int} (E1 : ∀ n, 0 ≤ n → n < nN G → (kd G n ≠ 0 → n + 1 ≤ en n) ∧ (kd G n = 0 → n + 1 ≤ c1 G n ∧ (c2 G n = -1 → en (c1 G n) ≤ en n) ∧ (c2 G n ≠ -1 → en (c1 G n) ≤ c2 G n ∧ en (c2 G n) ≤ en n))) (E2 : ∀ t, 0 ≤ t → t < nT G → en (ft G t) ≤ ft G (t + 1)) :
    ∀ (d : Dv) (half node i j p q : Int) (k : Nat), itm G half node i j p q → k < wW G ou row half node i j p q → Nth G ou row d half node i j p q k → (dst d : Int) ≤ gr G node i j p q ∧ (dvS d : Int) ≤ 2 * (en node - node) + (if half = 0 then -1 else 0) + 24 * dst d
  | .zero, half, node, i, j, p, q, k, h, hk, N => by
    have gi := (gr_nn I h (w_cov I.1 h hk)).1
    have e := (E1 node h.2.1 h.2.2.1).1 (by have := N.2.1; omega)
    refine ⟨gi, ?_⟩
    show (1 : Int) ≤ _ + _ + 24 * 0
    split <;> omega
  | .var _, _, _, _, _, _, _, _, _, _, N => False.elim N
  | .neg d, half, node, i, j, p, q, k, h, hk, N => by
    obtain ⟨rfl, k0, -, hl, n⟩ := N
    have b := Nth_bd I E1 E2 d 0 node i j p q k (half_item h).1 hl n
    rw [if_pos rfl] at b
    rw [if_neg (by decide)]
    refine ⟨b.1, ?_⟩
    show ((dvS d + 1 : Nat) : Int) ≤ _ + 24 * (dst d : Int)
    omega
  | .intMul t d, half, node, i, j, p, q, k, h, hk, N => by
    obtain ⟨k4, ep, eq, k', P, t0, t1, hg, hs, f1, hk', n, hfr, g⟩ := inv_place I h N
    have b := Nth_bd I E1 E2 d 1 (ft G t) i j (-1) (-1) k' f1 hk' n
    rw [if_neg (by decide)] at b
    have e := (E1 node h.2.1 h.2.2.1).1 (by omega)
    have e2 := E2 t t0 t1
    have st := (wf_step I.1 t0 t1).2
    refine ⟨?_, ?_⟩
    · show ((dst d + 1 : Nat) : Int) ≤ _
      omega
    · show ((dvS d + 1 : Nat) : Int) ≤ _ + 24 * ((dst d + 1 : Nat) : Int)
      split <;> omega
  | .natMul m d, half, node, i, j, p, q, k, h, hk, N => by
    obtain ⟨rfl⟩ := N.1
    obtain ⟨k0, c2', f1, hk', n, -, g⟩ := inv_unary I h hk N
    have b := Nth_bd I E1 E2 d 1 (c1 G node) i j p q k f1 hk' n
    rw [if_neg (by decide)] at b
    have e := (E1 node h.2.1 h.2.2.1).2 k0
    have e1 := e.2.1 c2'
    rw [if_pos rfl]
    refine ⟨by rw [← g]; exact b.1, ?_⟩
    show ((dvS d + 1 : Nat) : Int) ≤ _ + 24 * (dst d : Int)
    have := e.1
    have := b.2
    omega
  | .add x y, half, node, i, j, p, q, k, h, hk, N => by
    obtain ⟨rfl⟩ := N.1
    obtain ⟨k0, c2', m, k1, P, m0, m1, -, -, f1, f2, r2, r3, nx, ny, -, -, g⟩ := inv_split I h N
    have b1 := Nth_bd I E1 E2 x _ _ _ _ _ _ _ f1 r2 nx
    have b2 := Nth_bd I E1 E2 y _ _ _ _ _ _ _ f2 r3 ny
    rw [if_neg (by decide)] at b1 b2
    have e := (E1 node h.2.1 h.2.2.1).2 k0
    have e1 := e.2.2 c2'
    have e0 := e.1
    rw [if_pos rfl]
    refine ⟨?_, ?_⟩
    · show ((dst x + dst y : Nat) : Int) ≤ _
      omega
    · show ((dvS x + dvS y + 1 : Nat) : Int) ≤ _ + 24 * ((dst x + dst y : Nat) : Int)
      omega
  | .sub (.intMul t' o') d, half, node, i, j, p, q, k, h, hk, N => by
    obtain ⟨rfl⟩ := N.1
    obtain ⟨k0, m1, hb, t, k1, a, k2, c, k3, o, ex, P1, P2, P3, t0, t1, hg, hs, f1, f2, r2, r3, no, n, -, -, g⟩ := inv_guest I h N
    obtain ⟨e1, e2⟩ : t' = t ∧ o' = o := by
      injection ex with a b
      exact ⟨a, b⟩
    subst e1 e2
    have b1 := Nth_bd I E1 E2 o' _ _ _ _ _ _ _ f2 r2 no
    have b2 := Nth_bd I E1 E2 d _ _ _ _ _ _ _ f1 r3 n
    rw [if_neg (by decide)] at b1
    rw [if_pos rfl] at b2
    have e2 := E2 t' t0 t1
    have st := (wf_step I.1 t0 t1).2
    rw [if_neg (by decide)]
    refine ⟨?_, ?_⟩
    · show ((dst o' + 1 + dst d : Nat) : Int) ≤ _
      omega
    · show ((dvS o' + 1 + dvS d : Nat) : Int) ≤ _ + 24 * ((dst o' + 1 + dst d : Nat) : Int)
      omega
  | .sub .zero d, half, node, i, j, p, q, k, h, hk, N => by
    obtain ⟨-, -, -, -, t, k1, a, k2, c, k3, P1, P2, P3, nx, n⟩ := N
    exact absurd rfl nx.1
  | .sub (.var _) d, half, node, i, j, p, q, k, h, hk, N => by
    obtain ⟨-, -, -, -, t, k1, a, k2, c, k3, P1, P2, P3, nx, n⟩ := N
    exact False.elim nx
  | .sub (.neg _) d, half, node, i, j, p, q, k, h, hk, N => by
    obtain ⟨-, -, -, -, t, k1, a, k2, c, k3, P1, P2, P3, nx, n⟩ := N
    exact absurd nx.1 (by decide)
  | .sub (.natMul _ _) d, half, node, i, j, p, q, k, h, hk, N => by
    obtain ⟨-, -, -, -, t, k1, a, k2, c, k3, P1, P2, P3, nx, n⟩ := N
    exact absurd nx.1 (by decide)
  | .sub (.add _ _) d, half, node, i, j, p, q, k, h, hk, N => by
    obtain ⟨-, -, -, -, t, k1, a, k2, c, k3, P1, P2, P3, nx, n⟩ := N
    exact absurd nx.1 (by decide)
  | .sub (.sub _ _) d, half, node, i, j, p, q, k, h, hk, N => by
    obtain ⟨-, -, -, -, t, k1, a, k2, c, k3, P1, P2, P3, nx, n⟩ := N
    exact absurd nx.1 (by decide)
end
