/-! what is laid is held, second part -/
section
variable {G : Gm} {en : Int → Int}
theorem At_wide (W : WF G) (E : EnP G en) {st : St} {L M L' M' : Int} (hL : L' ≤ L) (hM : M ≤ M') {d : Dv} {s half node : Int} (n0 : 0 ≤ node) (n1 : node < nN G) (A : At G st L M d s half node) : At G st L' M' d s half node :=
  At_frame W E hL hM (fun _ _ _ _ => rfl) (fun _ _ _ => rfl) d s half node n0 n1 A (fun _ => rfl) (fun _ _ _ _ => rfl)
def Fresh (st : St) : Prop := ∀ s' n', (st.length : Int) ≤ s' → sPut st s' n' = -1
theorem lay_At (W : WF G) (E : EnP G en) : ∀ (d : Dv) (s half node : Int) (st : St), Sh G d half node → 0 ≤ node → node < nN G → s < st.length → (half ≠ 0 → sPut st s (off G node) = -1) → (half ≠ 2 → ∀ n', off G node + 1 ≤ n' → n' < en node - ft G (tr G node) → sPut st s n' = -1) → Fresh st →
    At G (lay G d s node st) st.length (lay G d s node st).length d s half node ∧ Fresh (lay G d s node st)
  | .zero, s, half, node, st, H, n0, n1, hs, h1, h2, F => ⟨⟨H.1, H.2, h1 (by have := H.1; omega)⟩, F⟩
  | .var _, s, half, node, st, H, n0, n1, hs, h1, h2, F => False.elim H
  | .neg d, s, half, node, st, H, n0, n1, hs, h1, h2, F => by
    obtain ⟨rfl, k0, H'⟩ := H
    have ih := lay_At W E d s 0 node st H' n0 n1 hs (fun z => absurd rfl z) (fun _ => h2 (by decide)) F
    refine ⟨⟨rfl, k0, ?_, ih.1⟩, ih.2⟩
    show sPut (lay G d s node st) s (off G node) = -1
    rw [lay_put W E d s 0 node st s (off G node) H' n0 n1 hs (Or.inr (Or.inl (by unfold rLo; rw [if_pos rfl]; omega)))]
    exact h1 (by decide)
  | .intMul t d, s, half, node, st, H, n0, n1, hs, h1, h2, F => by
    obtain ⟨⟨t0, t1⟩, h4, H'⟩ := H
    have r := root_in W t0 t1
    have hl1 : ((((t, s, off G node) :: st).length : Nat) : Int) = st.length + 1 := by show ((st.length + 1 : Nat) : Int) = _; omega
    have pc : ∀ s' n', sPut ((t, s, off G node) :: st) s' n' = if s = s' ∧ off G node = n' then (st.length : Int) else sPut st s' n' := fun _ _ => rfl
    have ih := lay_At W E d st.length 1 (ft G t) ((t, s, off G node) :: st) H' r.1 r.2.1 (by omega) (fun _ => by
      rw [pc, if_neg (fun z => by have := z.1; omega)]
      exact F _ _ (Int.le_refl _)) (fun _ n' _ _ => by
      rw [pc, if_neg (fun z => by have := z.1; omega)]
      exact F _ _ (Int.le_refl _)) (fun s' n' hs' => by
      rw [pc, if_neg (fun z => by have := z.1; omega)]
      exact F _ _ (by omega))
    have ln := lay_len (G := G) d st.length (ft G t) ((t, s, off G node) :: st)
    refine ⟨⟨⟨t0, t1⟩, h4, st.length, ⟨Int.le_refl _, ?_⟩, ?_, ?_, ?_⟩, ih.2⟩
    · show (st.length : Int) < (lay G d st.length (ft G t) ((t, s, off G node) :: st)).length
      omega
    · show sPut (lay G d st.length (ft G t) ((t, s, off G node) :: st)) s (off G node) = st.length
      rw [lay_put W E d st.length 1 (ft G t) _ s (off G node) H' r.1 r.2.1 (by omega) (Or.inl (by omega)), pc, if_pos ⟨rfl, rfl⟩]
    · show sEnt (lay G d st.length (ft G t) ((t, s, off G node) :: st)) st.length = _
      rw [lay_ent d _ _ _ _ (by omega)]
      show (if (st.length : Int) = st.length then (t, s, off G node) else _) = _
      rw [if_pos rfl]
    · exact At_wide W E (by omega) (Int.le_refl _) r.1 r.2.1 ih.1
  | .natMul m d, s, half, node, st, H, n0, n1, hs, h1, h2, F => by
    obtain ⟨rfl, k0, c2', H'⟩ := H
    have c := (ch_in W n0 n1 k0).1
    have e := ((E.1 node n0 n1).2 k0)
    have e1 := e.2.1 c2'
    have e0 := e.1
    have g1 := en_gt W E (nN G - c1 G node).toNat (c1 G node) c.2.1 c.2.2.1 (by omega)
    have hh : ∀ n', off G (c1 G node) ≤ n' → n' < en (c1 G node) - ft G (tr G (c1 G node)) → sPut st s n' = -1 := by
      intro n' a b
      unfold off at a
      rw [c.2.2.2] at a b
      exact h2 (by decide) n' (by unfold off; omega) (by omega)
    have o1 : off G (c1 G node) < en (c1 G node) - ft G (tr G (c1 G node)) := by unfold off; omega
    have ih := lay_At W E d s 1 (c1 G node) st H' c.2.1 c.2.2.1 hs (fun _ => hh _ (Int.le_refl _) o1) (fun _ n' a b => hh n' (by omega) b) F
    exact ⟨⟨rfl, k0, c2', ih.1⟩, ih.2⟩
  | .add x y, s, half, node, st, H, n0, n1, hs, h1, h2, F => by
    obtain ⟨rfl, k0, c2', Hx, Hy⟩ := H
    have c := (ch_in W n0 n1 k0).1
    have c' := (ch_in W n0 n1 k0).2 c2'
    have e := ((E.1 node n0 n1).2 k0)
    have e1 := e.2.2 c2'
    have e0 := e.1
    have g1 := en_gt W E (nN G - c1 G node).toNat (c1 G node) c.2.1 c.2.2.1 (by omega)
    have g2 := en_gt W E (nN G - c2 G node).toNat (c2 G node) c'.2.1 c'.2.2.1 (by omega)
    have hh : ∀ n', off G (c1 G node) ≤ n' → n' < en (c1 G node) - ft G (tr G (c1 G node)) → sPut st s n' = -1 := by
      intro n' a b
      unfold off at a
      rw [c.2.2.2] at a b
      exact h2 (by decide) n' (by unfold off; omega) (by omega)
    have o1 : off G (c1 G node) < en (c1 G node) - ft G (tr G (c1 G node)) := by unfold off; omega
    have o2 : off G (c2 G node) < en (c2 G node) - ft G (tr G (c2 G node)) := by unfold off; omega
    have ix := lay_At W E x s 1 (c1 G node) st Hx c.2.1 c.2.2.1 hs (fun _ => hh _ (Int.le_refl _) o1) (fun _ n' a b => hh n' (by omega) b) F
    have lx := lay_len (G := G) x s (c1 G node) st
    generalize hst1 : lay G x s (c1 G node) st = st1 at ix lx
    have hh' : ∀ n', off G (c2 G node) ≤ n' → n' < en (c2 G node) - ft G (tr G (c2 G node)) → sPut st1 s n' = -1 := by
      intro n' a b
      unfold off at a
      rw [c'.2.2.2] at a b
      rw [← hst1, lay_put W E x s 1 (c1 G node) st s n' Hx c.2.1 c.2.2.1 hs (Or.inr (Or.inr (by unfold rHi; rw [if_neg (by decide), c.2.2.2]; omega)))]
      exact h2 (by decide) n' (by unfold off; omega) (by omega)
    have iy := lay_At W E y s 1 (c2 G node) st1 Hy c'.2.1 c'.2.2.1 (by omega) (fun _ => hh' _ (Int.le_refl _) o2) (fun _ n' a b => hh' n' (by omega) b) ix.2
    have ly := lay_len (G := G) y s (c2 G node) st1
    have el : lay G (.add x y) s node st = lay G y s (c2 G node) st1 := by
      show lay G y s (c2 G node) (lay G x s (c1 G node) st) = _
      rw [hst1]
    rw [el]
    have pf : ∀ (s' n' : Int), s' < (st1.length : Int) → (s' ≠ s ∨ n' < off G (c2 G node)) → sPut (lay G y s (c2 G node) st1) s' n' = sPut st1 s' n' := fun s' n' a b => lay_put W E y s 1 (c2 G node) st1 s' n' Hy c'.2.1 c'.2.2.1 a (b.elim Or.inl (fun z => Or.inr (Or.inl (by unfold rLo; rw [if_neg (by decide)]; omega))))
    have oc : off G (c1 G node) < off G (c2 G node) ∧ en (c1 G node) - ft G (tr G (c1 G node)) ≤ off G (c2 G node) := by unfold off; rw [c.2.2.2, c'.2.2.2]; omega
    refine ⟨⟨rfl, k0, c2', At_frame W E (Int.le_refl _) (by omega) (fun s' n' a b => pf s' n' b (Or.inl (by omega))) (fun s' a b => lay_ent y _ _ _ s' b) x s 1 (c1 G node) c.2.1 c.2.2.1 ix.1 (fun _ => pf _ _ (by omega) (Or.inr oc.1)) (fun _ n' a b => pf _ _ (by omega) (Or.inr (by omega))), At_wide W E (by omega) (Int.le_refl _) c'.2.1 c'.2.2.1 iy.1⟩, iy.2⟩
  | .sub x d, s, half, node, st, H, n0, n1, hs, h1, h2, F => by
    obtain ⟨rfl, k0, Hx, Hd⟩ := H
    have ix := lay_At W E x s 2 node st Hx n0 n1 hs (fun _ => h1 (by decide)) (fun z => absurd rfl z) F
    have lx := lay_len (G := G) x s node st
    have px : ∀ n', off G node + 1 ≤ n' → sPut (lay G x s node st) s n' = sPut st s n' := fun n' a => lay_put W E x s 2 node st s n' Hx n0 n1 hs (Or.inr (Or.inr (by unfold rHi; rw [if_pos rfl]; exact a)))
    generalize hst1 : lay G x s node st = st1 at ix lx px
    have id' := lay_At W E d s 0 node st1 Hd n0 n1 (by omega) (fun z => absurd rfl z) (fun _ n' a b => by rw [px n' a]; exact h2 (by decide) n' a b) ix.2
    have ly := lay_len (G := G) d s node st1
    have el : lay G (.sub x d) s node st = lay G d s node st1 := by
      show lay G d s node (lay G x s node st) = _
      rw [hst1]
    rw [el]
    have pf : ∀ (s' n' : Int), s' < (st1.length : Int) → (s' ≠ s ∨ n' < off G node + 1) → sPut (lay G d s node st1) s' n' = sPut st1 s' n' := fun s' n' a b => lay_put W E d s 0 node st1 s' n' Hd n0 n1 a (b.elim Or.inl (fun z => Or.inr (Or.inl (by unfold rLo; rw [if_pos rfl]; exact z))))
    refine ⟨⟨rfl, k0, At_frame W E (Int.le_refl _) (by omega) (fun s' n' a b => pf s' n' b (Or.inl (by omega))) (fun s' a b => lay_ent d _ _ _ s' b) x s 2 node n0 n1 ix.1 (fun _ => pf _ _ (by omega) (Or.inr (by omega))) (fun z => absurd rfl z), At_wide W E (by omega) (Int.le_refl _) n0 n1 id'.1⟩, id'.2⟩
end
