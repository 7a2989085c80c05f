/-! what is reckoned over a tree of steps -/
section
variable {α : Type}
def uf (G : Gm) (st : St) (lt : Int → Int → α) (em : α) (fo im : α → α) (b1 : Int → α → α) (b2 : Int → α → α → α) : Dv → Int → Int → α → α
  | .zero, s, node, F => if kd G node = 1 then lt s node else if kd G node = 3 then fo F else em
  | .var _, _, _, F => F
  | .neg d, s, node, F => uf G st lt em fo im b1 b2 d s node F
  | .intMul t d, s, node, F => im (uf G st lt em fo im b1 b2 d (sPut st s (off G node)) (ft G t) F)
  | .natMul _ d, s, node, F => b1 node (uf G st lt em fo im b1 b2 d s (c1 G node) F)
  | .add x y, s, node, F => b2 node (uf G st lt em fo im b1 b2 x s (c1 G node) F) (uf G st lt em fo im b1 b2 y s (c2 G node) F)
  | .sub x d, s, node, F => uf G st lt em fo im b1 b2 x s node (uf G st lt em fo im b1 b2 d s node F)
variable {G : Gm} {en : Int → Int} {lt : Int → Int → α} {em : α} {fo im : α → α} {b1 : Int → α → α} {b2 : Int → α → α → α}
theorem uf_frame (W : WF G) (E : EnP G en) {st st' : St} {L M : Int} (hp : ∀ s' n', L ≤ s' → s' < M → sPut st' s' n' = sPut st s' n') : ∀ (d : Dv) (s half node : Int) (F : α), 0 ≤ node → node < nN G → At G st L M d s half node → (half ≠ 0 → sPut st' s (off G node) = sPut st s (off G node)) → (half ≠ 2 → ∀ n', off G node + 1 ≤ n' → n' < en node - ft G (tr G node) → sPut st' s n' = sPut st s n') → uf G st' lt em fo im b1 b2 d s node F = uf G st lt em fo im b1 b2 d s node F
  | .zero, s, half, node, F, n0, n1, A, h1, h2 => rfl
  | .var _, s, half, node, F, n0, n1, A, h1, h2 => rfl
  | .neg d, s, half, node, F, n0, n1, A, h1, h2 => by
    obtain ⟨rfl, k0, pu, A'⟩ := A
    exact uf_frame W E hp d s 0 node F n0 n1 A' (fun z => absurd rfl z) (fun _ => h2 (by decide))
  | .intMul t d, s, half, node, F, n0, n1, A, h1, h2 => by
    obtain ⟨⟨t0, t1⟩, h4, s', ⟨s0, s1⟩, pu, ent, A'⟩ := A
    have r := root_in W t0 t1
    have hpu : sPut st' s (off G node) = sPut st s (off G node) := by
      by_cases hz : half = 2
      · exact h1 (by omega)
      · exact h1 (by have := (h4 hz).1; omega)
    show im (uf G st' lt em fo im b1 b2 d (sPut st' s (off G node)) (ft G t) F) = im (uf G st lt em fo im b1 b2 d (sPut st s (off G node)) (ft G t) F)
    rw [hpu, pu, uf_frame W E hp d s' 1 (ft G t) F r.1 r.2.1 A' (fun _ => hp _ _ s0 s1) (fun _ n' _ _ => hp _ _ s0 s1)]
  | .natMul m d, s, half, node, F, n0, n1, A, h1, h2 => by
    obtain ⟨rfl, k0, c2', A'⟩ := A
    have c := (ch_in W n0 n1 k0).1
    have e := ((E.1 node n0 n1).2 k0)
    have e1 := e.2.1 c2'
    have e0 := e.1
    have g1 := en_gt W E (nN G - c1 G node).toNat (c1 G node) c.2.1 c.2.2.1 (by omega)
    have hh : ∀ n', off G (c1 G node) ≤ n' → n' < en (c1 G node) - ft G (tr G (c1 G node)) → sPut st' s n' = sPut st s n' := by
      intro n' a b
      unfold off at a
      rw [c.2.2.2] at a b
      exact h2 (by decide) n' (by unfold off; omega) (by omega)
    have o1 : off G (c1 G node) < en (c1 G node) - ft G (tr G (c1 G node)) := by unfold off; omega
    show b1 node (uf G st' lt em fo im b1 b2 d s (c1 G node) F) = b1 node (uf G st lt em fo im b1 b2 d s (c1 G node) F)
    rw [uf_frame W E hp d s 1 (c1 G node) F c.2.1 c.2.2.1 A' (fun _ => hh _ (Int.le_refl _) o1) (fun _ n' a b => hh n' (by omega) b)]
  | .add x y, s, half, node, F, n0, n1, A, h1, h2 => by
    obtain ⟨rfl, k0, c2', Ax, Ay⟩ := A
    have c := (ch_in W n0 n1 k0).1
    have c' := (ch_in W n0 n1 k0).2 c2'
    have e := ((E.1 node n0 n1).2 k0)
    have e1 := e.2.2 c2'
    have e0 := e.1
    have g1 := en_gt W E (nN G - c1 G node).toNat (c1 G node) c.2.1 c.2.2.1 (by omega)
    have g2 := en_gt W E (nN G - c2 G node).toNat (c2 G node) c'.2.1 c'.2.2.1 (by omega)
    have hh : ∀ n', off G (c1 G node) ≤ n' → n' < en (c1 G node) - ft G (tr G (c1 G node)) → sPut st' s n' = sPut st s n' := by
      intro n' a b
      unfold off at a
      rw [c.2.2.2] at a b
      exact h2 (by decide) n' (by unfold off; omega) (by omega)
    have hh' : ∀ n', off G (c2 G node) ≤ n' → n' < en (c2 G node) - ft G (tr G (c2 G node)) → sPut st' s n' = sPut st s n' := by
      intro n' a b
      unfold off at a
      rw [c'.2.2.2] at a b
      exact h2 (by decide) n' (by unfold off; omega) (by omega)
    have o1 : off G (c1 G node) < en (c1 G node) - ft G (tr G (c1 G node)) := by unfold off; omega
    have o2 : off G (c2 G node) < en (c2 G node) - ft G (tr G (c2 G node)) := by unfold off; omega
    show b2 node (uf G st' lt em fo im b1 b2 x s (c1 G node) F) (uf G st' lt em fo im b1 b2 y s (c2 G node) F) = b2 node (uf G st lt em fo im b1 b2 x s (c1 G node) F) (uf G st lt em fo im b1 b2 y s (c2 G node) F)
    rw [uf_frame W E hp x s 1 (c1 G node) F c.2.1 c.2.2.1 Ax (fun _ => hh _ (Int.le_refl _) o1) (fun _ n' a b => hh n' (by omega) b), uf_frame W E hp y s 1 (c2 G node) F c'.2.1 c'.2.2.1 Ay (fun _ => hh' _ (Int.le_refl _) o2) (fun _ n' a b => hh' n' (by omega) b)]
  | .sub x d, s, half, node, F, n0, n1, A, h1, h2 => by
    obtain ⟨rfl, k0, Ax, Ad⟩ := A
    show uf G st' lt em fo im b1 b2 x s node (uf G st' lt em fo im b1 b2 d s node F) = uf G st lt em fo im b1 b2 x s node (uf G st lt em fo im b1 b2 d s node F)
    rw [uf_frame W E hp d s 0 node F n0 n1 Ad (fun z => absurd rfl z) (fun _ => h2 (by decide)), uf_frame W E hp x s 2 node _ n0 n1 Ax (fun _ => h1 (by decide)) (fun z => absurd rfl z)]
end
/-- the letters, as steps and nodes -/
def uY (G : Gm) (st : St) : Dv → Int → Int → List (Int × Int) → List (Int × Int) := uf G st (fun s node => [(s, off G node)]) [] id id (fun _ x => x) (fun _ x y => x ++ y)
/-- the text -/
def uT (G : Gm) (st : St) : Dv → Int → Int → List Int → List Int := uf G st (fun _ node => [97 + lb G node]) [46] id id (fun node x => [40, 65 + lb G node] ++ 32 :: x ++ [41]) (fun node x y => [40, 65 + lb G node] ++ 32 :: x ++ 32 :: y ++ [41])
/-- depth, branches -/
def uD (G : Gm) (st : St) : Dv → Int → Int → Nat → Nat := uf G st (fun _ _ => 0) 0 id id (fun _ x => x + 1) (fun _ x y => max x y + 1)
def uB (G : Gm) (st : St) : Dv → Int → Int → Nat → Nat := uf G st (fun _ _ => 0) 0 id id (fun _ x => x + 1) (fun _ x y => x + y + 1)
/-- weight, turns -/
def uW (G : Gm) (st : St) : Dv → Int → Int → Nat → Nat := uf G st (fun _ _ => 1) 1 (fun x => x + 1) id (fun _ x => x + 1) (fun _ x y => x + y + 1)
def uC (G : Gm) (st : St) : Dv → Int → Int → Nat → Nat := uf G st (fun _ _ => 1) 1 (fun x => x + 1) (fun x => x + 1) (fun _ x => x + 2) (fun _ x y => x + y + 2)
section
variable {G : Gm} {en : Int → Int}
theorem lay_Y (W : WF G) (E : EnP G en) : ∀ (d : Dv) (s half node : Int) (st : St) (Ff : List (Int × Int)), Sh G d half node → 0 ≤ node → node < nN G → s < st.length → (half ≠ 0 → sPut st s (off G node) = -1) → (half ≠ 2 → ∀ n', off G node + 1 ≤ n' → n' < en node - ft G (tr G node) → sPut st s n' = -1) → Fresh st →
    uY G (lay G d s node st) d s node Ff = yl G d s node Ff st.length
  | .zero, s, half, node, st, Ff, H, n0, n1, hs, h1, h2, F => rfl
  | .var _, s, half, node, st, Ff, H, n0, n1, hs, h1, h2, F => False.elim H
  | .neg d, s, half, node, st, Ff, H, n0, n1, hs, h1, h2, F => by
    obtain ⟨rfl, k0, H'⟩ := H
    exact lay_Y W E d s 0 node st Ff H' n0 n1 hs (fun z => absurd rfl z) (fun _ => h2 (by decide)) F
  | .intMul t d, s, half, node, st, Ff, H, n0, n1, hs, h1, h2, F => by
    obtain ⟨⟨t0, t1⟩, h4, H'⟩ := H
    have r := root_in W t0 t1
    have hl1 : ((((t, s, off G node) :: st).length : Nat) : Int) = st.length + 1 := by show ((st.length + 1 : Nat) : Int) = _; omega
    have pc : ∀ s' n', sPut ((t, s, off G node) :: st) s' n' = if s = s' ∧ off G node = n' then (st.length : Int) else sPut st s' n' := fun _ _ => rfl
    have ih := lay_Y W E d st.length 1 (ft G t) ((t, s, off G node) :: st) Ff H' r.1 r.2.1 (by omega) (fun _ => by
      rw [pc, if_neg (fun z => by have := z.1; omega)]
      exact F _ _ (Int.le_refl _)) (fun _ n' _ _ => by
      rw [pc, if_neg (fun z => by have := z.1; omega)]
      exact F _ _ (Int.le_refl _)) (fun s' n' hs' => by
      rw [pc, if_neg (fun z => by have := z.1; omega)]
      exact F _ _ (by omega))
    show uY G (lay G d st.length (ft G t) ((t, s, off G node) :: st)) d (sPut (lay G d st.length (ft G t) ((t, s, off G node) :: st)) s (off G node)) (ft G t) Ff = yl G d st.length (ft G t) Ff (st.length + 1)
    rw [lay_put W E d st.length 1 (ft G t) _ s (off G node) H' r.1 r.2.1 (by omega) (Or.inl (by omega)), pc, if_pos ⟨rfl, rfl⟩, ih, hl1]
  | .natMul m d, s, half, node, st, Ff, H, n0, n1, hs, h1, h2, F => by
    obtain ⟨rfl, k0, c2', H'⟩ := H
    have c := (ch_in W n0 n1 k0).1
    have e := ((E.1 node n0 n1).2 k0)
    have e1 := e.2.1 c2'
    have e0 := e.1
    have g1 := en_gt W E (nN G - c1 G node).toNat (c1 G node) c.2.1 c.2.2.1 (by omega)
    have hh : ∀ n', off G (c1 G node) ≤ n' → n' < en (c1 G node) - ft G (tr G (c1 G node)) → sPut st s n' = -1 := by
      intro n' a b
      unfold off at a
      rw [c.2.2.2] at a b
      exact h2 (by decide) n' (by unfold off; omega) (by omega)
    have o1 : off G (c1 G node) < en (c1 G node) - ft G (tr G (c1 G node)) := by unfold off; omega
    exact lay_Y W E d s 1 (c1 G node) st Ff H' c.2.1 c.2.2.1 hs (fun _ => hh _ (Int.le_refl _) o1) (fun _ n' a b => hh n' (by omega) b) F
  | .add x y, s, half, node, st, Ff, H, n0, n1, hs, h1, h2, F => by
    obtain ⟨rfl, k0, c2', Hx, Hy⟩ := H
    have c := (ch_in W n0 n1 k0).1
    have c' := (ch_in W n0 n1 k0).2 c2'
    have e := ((E.1 node n0 n1).2 k0)
    have e1 := e.2.2 c2'
    have e0 := e.1
    have g1 := en_gt W E (nN G - c1 G node).toNat (c1 G node) c.2.1 c.2.2.1 (by omega)
    have g2 := en_gt W E (nN G - c2 G node).toNat (c2 G node) c'.2.1 c'.2.2.1 (by omega)
    have hh : ∀ n', off G (c1 G node) ≤ n' → n' < en (c1 G node) - ft G (tr G (c1 G node)) → sPut st s n' = -1 := by
      intro n' a b
      unfold off at a
      rw [c.2.2.2] at a b
      exact h2 (by decide) n' (by unfold off; omega) (by omega)
    have o1 : off G (c1 G node) < en (c1 G node) - ft G (tr G (c1 G node)) := by unfold off; omega
    have o2 : off G (c2 G node) < en (c2 G node) - ft G (tr G (c2 G node)) := by unfold off; omega
    have ix := lay_At W E x s 1 (c1 G node) st Hx c.2.1 c.2.2.1 hs (fun _ => hh _ (Int.le_refl _) o1) (fun _ n' a b => hh n' (by omega) b) F
    have jx := lay_Y W E x s 1 (c1 G node) st Ff Hx c.2.1 c.2.2.1 hs (fun _ => hh _ (Int.le_refl _) o1) (fun _ n' a b => hh n' (by omega) b) F
    have lx := lay_len (G := G) x s (c1 G node) st
    generalize hst1 : lay G x s (c1 G node) st = st1 at ix lx jx
    have hh' : ∀ n', off G (c2 G node) ≤ n' → n' < en (c2 G node) - ft G (tr G (c2 G node)) → sPut st1 s n' = -1 := by
      intro n' a b
      unfold off at a
      rw [c'.2.2.2] at a b
      rw [← hst1, lay_put W E x s 1 (c1 G node) st s n' Hx c.2.1 c.2.2.1 hs (Or.inr (Or.inr (by unfold rHi; rw [if_neg (by decide), c.2.2.2]; omega)))]
      exact h2 (by decide) n' (by unfold off; omega) (by omega)
    have jy := lay_Y W E y s 1 (c2 G node) st1 Ff Hy c'.2.1 c'.2.2.1 (by omega) (fun _ => hh' _ (Int.le_refl _) o2) (fun _ n' a b => hh' n' (by omega) b) ix.2
    have el : lay G (.add x y) s node st = lay G y s (c2 G node) st1 := by
      show lay G y s (c2 G node) (lay G x s (c1 G node) st) = _
      rw [hst1]
    rw [el]
    have pf : ∀ (s' n' : Int), s' < (st1.length : Int) → (s' ≠ s ∨ n' < off G (c2 G node)) → sPut (lay G y s (c2 G node) st1) s' n' = sPut st1 s' n' := fun s' n' a b => lay_put W E y s 1 (c2 G node) st1 s' n' Hy c'.2.1 c'.2.2.1 a (b.elim Or.inl (fun z => Or.inr (Or.inl (by unfold rLo; rw [if_neg (by decide)]; omega))))
    have oc : off G (c1 G node) < off G (c2 G node) ∧ en (c1 G node) - ft G (tr G (c1 G node)) ≤ off G (c2 G node) := by unfold off; rw [c.2.2.2, c'.2.2.2]; omega
    have fx : uY G (lay G y s (c2 G node) st1) x s (c1 G node) Ff = uY G st1 x s (c1 G node) Ff := uf_frame W E (fun s' n' a b => pf s' n' b (Or.inl (by omega))) x s 1 (c1 G node) Ff c.2.1 c.2.2.1 ix.1 (fun _ => pf _ _ (by omega) (Or.inr oc.1)) (fun _ n' a b => pf _ _ (by omega) (Or.inr (by omega)))
    show uY G (lay G y s (c2 G node) st1) x s (c1 G node) Ff ++ uY G (lay G y s (c2 G node) st1) y s (c2 G node) Ff = yl G x s (c1 G node) Ff st.length ++ yl G y s (c2 G node) Ff ((st.length : Int) + (dst x : Int))
    rw [fx, jx, jy, show (st1.length : Int) = (st.length : Int) + (dst x : Int) by omega]
  | .sub x d, s, half, node, st, Ff, H, n0, n1, hs, h1, h2, F => by
    obtain ⟨rfl, k0, Hx, Hd⟩ := H
    have ix := lay_At W E x s 2 node st Hx n0 n1 hs (fun _ => h1 (by decide)) (fun z => absurd rfl z) F
    have jx := fun Ff' => lay_Y W E x s 2 node st Ff' Hx n0 n1 hs (fun _ => h1 (by decide)) (fun z => absurd rfl z) F
    have lx := lay_len (G := G) x s node st
    have px : ∀ n', off G node + 1 ≤ n' → sPut (lay G x s node st) s n' = sPut st s n' := fun n' a => lay_put W E x s 2 node st s n' Hx n0 n1 hs (Or.inr (Or.inr (by unfold rHi; rw [if_pos rfl]; exact a)))
    generalize hst1 : lay G x s node st = st1 at ix lx px jx
    have jd := lay_Y W E d s 0 node st1 Ff Hd n0 n1 (by omega) (fun z => absurd rfl z) (fun _ n' a b => by rw [px n' a]; exact h2 (by decide) n' a b) ix.2
    have el : lay G (.sub x d) s node st = lay G d s node st1 := by
      show lay G d s node (lay G x s node st) = _
      rw [hst1]
    rw [el]
    have pf : ∀ (s' n' : Int), s' < (st1.length : Int) → (s' ≠ s ∨ n' < off G node + 1) → sPut (lay G d s node st1) s' n' = sPut st1 s' n' := fun s' n' a b => lay_put W E d s 0 node st1 s' n' Hd n0 n1 a (b.elim Or.inl (fun z => Or.inr (Or.inl (by unfold rLo; rw [if_pos rfl]; exact z))))
    have fx : ∀ Ff', uY G (lay G d s node st1) x s node Ff' = uY G st1 x s node Ff' := fun Ff' => uf_frame W E (fun s' n' a b => pf s' n' b (Or.inl (by omega))) x s 2 node Ff' n0 n1 ix.1 (fun _ => pf _ _ (by omega) (Or.inr (by omega))) (fun z => absurd rfl z)
    show uY G (lay G d s node st1) x s node (uY G (lay G d s node st1) d s node Ff) = yl G x s node (yl G d s node Ff ((st.length : Int) + (dst x : Int))) st.length
    rw [fx, jd, jx, show (st1.length : Int) = (st.length : Int) + (dst x : Int) by omega]
end
