/-! what is laid is held -/
def rLo (G : Gm) (half node : Int) : Int := off G node + (if half = 0 then 1 else 0)
def rHi (G : Gm) (en : Int → Int) (half node : Int) : Int := if half = 2 then off G node + 1 else en node - ft G (tr G node)
def EnP (G : Gm) (en : Int → Int) : Prop := (∀ n, 0 ≤ n → n < nN G → (kd G n ≠ 0 → n + 1 ≤ en n) ∧ (kd G n = 0 → n + 1 ≤ c1 G n ∧ (c2 G n = -1 → en (c1 G n) ≤ en n) ∧ (c2 G n ≠ -1 → en (c1 G n) ≤ c2 G n ∧ en (c2 G n) ≤ en n))) ∧ ∀ t, 0 ≤ t → t < nT G → en (ft G t) ≤ ft G (t + 1)
section
variable {G : Gm} {en : Int → Int}
theorem ch_in (W : WF G) {node : Int} (n0 : 0 ≤ node) (n1 : node < nN G) (hk : kd G node = 0) : (node < c1 G node ∧ 0 ≤ c1 G node ∧ c1 G node < nN G ∧ tr G (c1 G node) = tr G node) ∧ (c2 G node ≠ -1 → c1 G node < c2 G node ∧ 0 ≤ c2 G node ∧ c2 G node < nN G ∧ tr G (c2 G node) = tr G node) := by
  have hch := wf_ch W n0 n1 hk
  have a1 := child_in W n0 n1 hch.1 hch.2.1
  refine ⟨⟨hch.1, a1.1, a1.2.1, a1.2.2⟩, fun h2 => ?_⟩
  have q2 : c1 G node < c2 G node ∧ c2 G node < ft G (tr G node + 1) := by
    rcases hch.2.2 with q2 | q2
    · exact absurd q2 h2
    · exact q2
  have a2 := child_in W n0 n1 (by omega) q2.2
  exact ⟨q2.1, a2.1, a2.2.1, a2.2.2⟩
theorem en_gt (W : WF G) (E : EnP G en) : ∀ (m : Nat) (n : Int), 0 ≤ n → n < nN G → nN G - n ≤ m → n + 1 ≤ en n := by
  intro m
  induction m with
  | zero => intro n n0 n1 hm; omega
  | succ m ih =>
  intro n n0 n1 hm
  have e := E.1 n n0 n1
  by_cases hk : kd G n = 0
  · have c := ch_in W n0 n1 hk
    have e0 := e.2 hk
    have i1 := ih (c1 G n) c.1.2.1 c.1.2.2.1 (by have := c.1.1; omega)
    by_cases h2 : c2 G n = -1
    · have := e0.2.1 h2
      have := c.1.1
      omega
    · have q := e0.2.2 h2
      have c' := c.2 h2
      have i2 := ih (c2 G n) c'.2.1 c'.2.2.1 (by have := c.1.1; have := c'.1; omega)
      have := c'.1
      have := c.1.1
      omega
  · exact e.1 hk
theorem lay_put (W : WF G) (E : EnP G en) : ∀ (d : Dv) (s half node : Int) (st : St) (s' n' : Int), Sh G d half node → 0 ≤ node → node < nN G → s' < st.length → (s' ≠ s ∨ n' < rLo G half node ∨ rHi G en half node ≤ n') → sPut (lay G d s node st) s' n' = sPut st s' n'
  | .zero, _, _, _, st, _, _, _, _, _, _, _ => rfl
  | .var _, _, _, _, st, _, _, _, _, _, _, _ => rfl
  | .neg d, s, half, node, st, s', n', H, n0, n1, hs, hr => by
    obtain ⟨rfl, k0, H'⟩ := H
    refine lay_put W E d s 0 node st s' n' H' n0 n1 hs ?_
    unfold rLo rHi at hr ⊢
    rw [if_neg (by decide), if_neg (by decide)] at hr
    rw [if_pos rfl, if_neg (by decide)]
    omega
  | .intMul t d, s, half, node, st, s', n', H, n0, n1, hs, hr => by
    obtain ⟨⟨t0, t1⟩, h4, H'⟩ := H
    have r := root_in W t0 t1
    show sPut (lay G d st.length (ft G t) ((t, s, off G node) :: st)) s' n' = _
    rw [lay_put W E d st.length 1 (ft G t) _ s' n' H' r.1 r.2.1 (by show s' < ((st.length + 1 : Nat) : Int); omega) (Or.inl (by omega))]
    show (if s = s' ∧ off G node = n' then (st.length : Int) else sPut st s' n') = _
    rw [if_neg]
    rintro ⟨e1, e2⟩
    subst e1 e2
    have g := en_gt W E (nN G - node).toNat node n0 n1 (by omega)
    unfold rLo rHi at hr
    by_cases h2 : half = 2
    · rw [if_pos h2, if_neg (by omega)] at hr
      omega
    · have k4 := (h4 h2).1
      rw [if_neg h2, if_neg (by omega)] at hr
      unfold off at hr
      omega
  | .natMul m d, s, half, node, st, s', n', H, n0, n1, hs, hr => by
    obtain ⟨rfl, k0, c2', H'⟩ := H
    have c := (ch_in W n0 n1 k0).1
    have e := ((E.1 node n0 n1).2 k0)
    refine lay_put W E d s 1 (c1 G node) st s' n' H' c.2.1 c.2.2.1 hs ?_
    have e1 := e.2.1 c2'
    have e0 := e.1
    unfold rLo rHi off at hr ⊢
    rw [if_pos rfl, if_neg (by decide)] at hr
    rw [if_neg (by decide), if_neg (by decide), c.2.2.2]
    omega
  | .add x y, s, half, node, st, s', n', H, n0, n1, hs, hr => by
    obtain ⟨rfl, k0, c2', Hx, Hy⟩ := H
    have c := (ch_in W n0 n1 k0).1
    have c' := (ch_in W n0 n1 k0).2 c2'
    have e := ((E.1 node n0 n1).2 k0)
    have e1 := e.2.2 c2'
    have e0 := e.1
    have g1 := en_gt W E (nN G - c1 G node).toNat (c1 G node) c.2.1 c.2.2.1 (by omega)
    have g2 := en_gt W E (nN G - c2 G node).toNat (c2 G node) c'.2.1 c'.2.2.1 (by omega)
    unfold rLo rHi off at hr
    rw [if_pos rfl, if_neg (by decide)] at hr
    show sPut (lay G y s _ (lay G x s _ st)) s' n' = _
    rw [lay_put W E y s 1 (c2 G node) _ s' n' Hy c'.2.1 c'.2.2.1 (by rw [lay_len]; omega) (by
      unfold rLo rHi off
      rw [if_neg (by decide), if_neg (by decide), c'.2.2.2]
      omega), lay_put W E x s 1 (c1 G node) _ s' n' Hx c.2.1 c.2.2.1 hs (by
      unfold rLo rHi off
      rw [if_neg (by decide), if_neg (by decide), c.2.2.2]
      omega)]
  | .sub x d, s, half, node, st, s', n', H, n0, n1, hs, hr => by
    obtain ⟨rfl, k0, Hx, Hd⟩ := H
    have g := en_gt W E (nN G - node).toNat node n0 n1 (by omega)
    unfold rLo rHi off at hr
    rw [if_neg (by decide), if_neg (by decide)] at hr
    show sPut (lay G d s _ (lay G x s _ st)) s' n' = _
    rw [lay_put W E d s 0 node _ s' n' Hd n0 n1 (by rw [lay_len]; omega) (by
      unfold rLo rHi off
      rw [if_pos rfl, if_neg (by decide)]
      omega), lay_put W E x s 2 node _ s' n' Hx n0 n1 hs (by
      unfold rLo rHi off
      rw [if_neg (by decide), if_pos rfl]
      omega)]
theorem At_frame (W : WF G) (E : EnP G en) {st st' : St} {L M L' M' : Int} (hL : L' ≤ L) (hM : M ≤ M') (hp : ∀ s' n', L ≤ s' → s' < M → sPut st' s' n' = sPut st s' n') (he : ∀ s', L ≤ s' → s' < M → sEnt st' s' = sEnt st s') : ∀ (d : Dv) (s half node : Int), 0 ≤ node → node < nN G → At G st L M d s half node → (half ≠ 0 → sPut st' s (off G node) = sPut st s (off G node)) → (half ≠ 2 → ∀ n', off G node + 1 ≤ n' → n' < en node - ft G (tr G node) → sPut st' s n' = sPut st s n') → At G st' L' M' d s half node
  | .zero, s, half, node, n0, n1, A, h1, h2 => ⟨A.1, A.2.1, by rw [h1 (by have := A.1; omega)]; exact A.2.2⟩
  | .var _, s, half, node, n0, n1, A, h1, h2 => A
  | .neg d, s, half, node, n0, n1, A, h1, h2 => by
    obtain ⟨rfl, k0, pu, A'⟩ := A
    exact ⟨rfl, k0, by rw [h1 (by decide)]; exact pu, At_frame W E hL hM hp he d s 0 node n0 n1 A' (fun z => absurd rfl z) (fun _ => h2 (by decide))⟩
  | .intMul t d, s, half, node, n0, n1, A, h1, h2 => by
    obtain ⟨⟨t0, t1⟩, h4, s', ⟨s0, s1⟩, pu, ent, A'⟩ := A
    have r := root_in W t0 t1
    have hpu : sPut st' s (off G node) = sPut st s (off G node) := by
      by_cases hz : half = 2
      · exact h1 (by omega)
      · exact h1 (by have := (h4 hz).1; omega)
    exact ⟨⟨t0, t1⟩, h4, s', ⟨by omega, by omega⟩, by rw [hpu]; exact pu, by rw [he s' s0 s1]; exact ent, At_frame W E hL hM hp he d s' 1 (ft G t) r.1 r.2.1 A' (fun _ => hp _ _ s0 s1) (fun _ n' _ _ => hp _ _ s0 s1)⟩
  | .natMul m d, s, half, node, n0, n1, A, h1, h2 => by
    obtain ⟨rfl, k0, c2', A'⟩ := A
    have c := (ch_in W n0 n1 k0).1
    have e := ((E.1 node n0 n1).2 k0)
    have e1 := e.2.1 c2'
    have e0 := e.1
    have g1 := en_gt W E (nN G - c1 G node).toNat (c1 G node) c.2.1 c.2.2.1 (by omega)
    have hh : ∀ n', off G (c1 G node) ≤ n' → n' < en (c1 G node) - ft G (tr G (c1 G node)) → sPut st' s n' = sPut st s n' := by
      intro n' a b
      unfold off at a
      rw [c.2.2.2] at a b
      exact h2 (by decide) n' (by unfold off; omega) (by omega)
    have o1 : off G (c1 G node) < en (c1 G node) - ft G (tr G (c1 G node)) := by unfold off; omega
    exact ⟨rfl, k0, c2', At_frame W E hL hM hp he d s 1 (c1 G node) c.2.1 c.2.2.1 A' (fun _ => hh _ (Int.le_refl _) o1) (fun _ n' a b => hh n' (by omega) b)⟩
  | .add x y, s, half, node, n0, n1, A, h1, h2 => by
    obtain ⟨rfl, k0, c2', Ax, Ay⟩ := A
    have c := (ch_in W n0 n1 k0).1
    have c' := (ch_in W n0 n1 k0).2 c2'
    have e := ((E.1 node n0 n1).2 k0)
    have e1 := e.2.2 c2'
    have e0 := e.1
    have g1 := en_gt W E (nN G - c1 G node).toNat (c1 G node) c.2.1 c.2.2.1 (by omega)
    have g2 := en_gt W E (nN G - c2 G node).toNat (c2 G node) c'.2.1 c'.2.2.1 (by omega)
    have hh : ∀ n', off G (c1 G node) ≤ n' → n' < en (c1 G node) - ft G (tr G (c1 G node)) → sPut st' s n' = sPut st s n' := by
      intro n' a b
      unfold off at a
      rw [c.2.2.2] at a b
      exact h2 (by decide) n' (by unfold off; omega) (by omega)
    have hh' : ∀ n', off G (c2 G node) ≤ n' → n' < en (c2 G node) - ft G (tr G (c2 G node)) → sPut st' s n' = sPut st s n' := by
      intro n' a b
      unfold off at a
      rw [c'.2.2.2] at a b
      exact h2 (by decide) n' (by unfold off; omega) (by omega)
    have o1 : off G (c1 G node) < en (c1 G node) - ft G (tr G (c1 G node)) := by unfold off; omega
    have o2 : off G (c2 G node) < en (c2 G node) - ft G (tr G (c2 G node)) := by unfold off; omega
    exact ⟨rfl, k0, c2', At_frame W E hL hM hp he x s 1 (c1 G node) c.2.1 c.2.2.1 Ax (fun _ => hh _ (Int.le_refl _) o1) (fun _ n' a b => hh n' (by omega) b), At_frame W E hL hM hp he y s 1 (c2 G node) c'.2.1 c'.2.2.1 Ay (fun _ => hh' _ (Int.le_refl _) o2) (fun _ n' a b => hh' n' (by omega) b)⟩
  | .sub x d, s, half, node, n0, n1, A, h1, h2 => by
    obtain ⟨rfl, k0, Ax, Ad⟩ := A
    exact ⟨rfl, k0, At_frame W E hL hM hp he x s 2 node n0 n1 Ax (fun _ => h1 (by decide)) (fun z => absurd rfl z), At_frame W E hL hM hp he d s 0 node n0 n1 Ad (fun z => absurd rfl z) (fun _ => h2 (by decide))⟩
end
