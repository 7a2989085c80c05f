/-! no letter of a way is met twice -/
section
variable {G : Gm} {en : Int → Int}
theorem yl_mem (W : WF G) (E : EnP G en) : ∀ (d : Dv) (s half node : Int) (F : List (Int × Int)) (N : Int), Sh G d half node → 0 ≤ node → node < nN G → ∀ e ∈ yl G d s node F N, e ∈ F ∨ (half ≠ 2 ∧ e.1 = s ∧ off G node ≤ e.2 ∧ e.2 < en node - ft G (tr G node)) ∨ (N ≤ e.1 ∧ e.1 < N + dst d)
  | .zero, s, half, node, F, N, H, n0, n1, e, he => by
    have he' : e ∈ (if kd G node = 1 then [(s, off G node)] else if kd G node = 3 then F else []) := he
    by_cases k1 : kd G node = 1
    · rw [if_pos k1] at he'
      have : e = (s, off G node) := by simpa using he'
      have g := en_gt W E (nN G - node).toNat node n0 n1 (by omega)
      rw [this]
      exact Or.inr (Or.inl ⟨by have := H.1; omega, rfl, Int.le_refl _, by show off G node < _; unfold off; omega⟩)
    · rw [if_neg k1] at he'
      by_cases k3 : kd G node = 3
      · rw [if_pos k3] at he'; exact Or.inl he'
      · rw [if_neg k3] at he'; exact absurd he' (List.not_mem_nil)
  | .var _, s, half, node, F, N, H, n0, n1, e, he => False.elim H
  | .neg d, s, half, node, F, N, H, n0, n1, e, he => by
    obtain ⟨rfl, k0, H'⟩ := H
    rcases yl_mem W E d s 0 node F N H' n0 n1 e he with z | z | z
    · exact Or.inl z
    · exact Or.inr (Or.inl ⟨by decide, z.2⟩)
    · exact Or.inr (Or.inr z)
  | .intMul t d, s, half, node, F, N, H, n0, n1, e, he => by
    obtain ⟨⟨t0, t1⟩, h4, H'⟩ := H
    have r := root_in W t0 t1
    have ed : (dst (.intMul t d) : Int) = dst d + 1 := by show ((dst d + 1 : Nat) : Int) = _; omega
    rw [ed]
    rcases yl_mem W E d N 1 (ft G t) F (N + 1) H' r.1 r.2.1 e he with z | z | z
    · exact Or.inl z
    · exact Or.inr (Or.inr (by have := z.2.1; omega))
    · exact Or.inr (Or.inr (by omega))
  | .natMul m d, s, half, node, F, N, H, n0, n1, e, he => by
    obtain ⟨rfl, k0, c2', H'⟩ := H
    have c := (ch_in W n0 n1 k0).1
    have e0 := ((E.1 node n0 n1).2 k0)
    have e1 := e0.2.1 c2'
    rcases yl_mem W E d s 1 (c1 G node) F N H' c.2.1 c.2.2.1 e he with z | z | z
    · exact Or.inl z
    · refine Or.inr (Or.inl ⟨by decide, z.2.1, ?_⟩)
      have a := z.2.2
      unfold off at a ⊢
      rw [c.2.2.2] at a
      omega
    · exact Or.inr (Or.inr z)
  | .add x y, s, half, node, F, N, H, n0, n1, e, he => by
    obtain ⟨rfl, k0, c2', Hx, Hy⟩ := H
    have c := (ch_in W n0 n1 k0).1
    have c' := (ch_in W n0 n1 k0).2 c2'
    have e0 := ((E.1 node n0 n1).2 k0)
    have e1 := e0.2.2 c2'
    have g2 := en_gt W E (nN G - c2 G node).toNat (c2 G node) c'.2.1 c'.2.2.1 (by omega)
    have ed : (dst (.add x y) : Int) = dst x + dst y := by show ((dst x + dst y : Nat) : Int) = _; omega
    rw [ed]
    rcases List.mem_append.mp he with he | he
    · rcases yl_mem W E x s 1 (c1 G node) F N Hx c.2.1 c.2.2.1 e he with z | z | z
      · exact Or.inl z
      · refine Or.inr (Or.inl ⟨by decide, z.2.1, ?_⟩)
        have a := z.2.2
        unfold off at a ⊢
        rw [c.2.2.2] at a
        omega
      · exact Or.inr (Or.inr (by omega))
    · rcases yl_mem W E y s 1 (c2 G node) F (N + dst x) Hy c'.2.1 c'.2.2.1 e he with z | z | z
      · exact Or.inl z
      · refine Or.inr (Or.inl ⟨by decide, z.2.1, ?_⟩)
        have a := z.2.2
        unfold off at a ⊢
        rw [c'.2.2.2] at a
        omega
      · exact Or.inr (Or.inr (by omega))
  | .sub x d, s, half, node, F, N, H, n0, n1, e, he => by
    obtain ⟨rfl, k0, Hx, Hd⟩ := H
    have ed : (dst (.sub x d) : Int) = dst x + dst d := by show ((dst x + dst d : Nat) : Int) = _; omega
    rw [ed]
    rcases yl_mem W E x s 2 node _ N Hx n0 n1 e he with z | z | z
    · rcases yl_mem W E d s 0 node F (N + dst x) Hd n0 n1 e z with z | z | z
      · exact Or.inl z
      · exact Or.inr (Or.inl ⟨by decide, z.2⟩)
      · exact Or.inr (Or.inr (by omega))
    · exact absurd rfl z.1
    · exact Or.inr (Or.inr (by omega))
theorem yl_nd (W : WF G) (E : EnP G en) : ∀ (d : Dv) (s half node : Int) (F : List (Int × Int)) (N : Int), Sh G d half node → 0 ≤ node → node < nN G → s < N → F.Nodup → (∀ e ∈ F, ¬ (N ≤ e.1 ∧ e.1 < N + dst d) ∧ (half ≠ 2 → ¬ (e.1 = s ∧ off G node ≤ e.2 ∧ e.2 < en node - ft G (tr G node)))) → (yl G d s node F N).Nodup
  | .zero, s, half, node, F, N, H, n0, n1, hs, nF, hF => by
    show (if kd G node = 1 then [(s, off G node)] else if kd G node = 3 then F else []).Nodup
    split
    · simp
    · split
      · exact nF
      · exact List.nodup_nil
  | .var _, s, half, node, F, N, H, n0, n1, hs, nF, hF => False.elim H
  | .neg d, s, half, node, F, N, H, n0, n1, hs, nF, hF => by
    obtain ⟨rfl, k0, H'⟩ := H
    exact yl_nd W E d s 0 node F N H' n0 n1 hs nF (fun e he => ⟨(hF e he).1, fun _ => (hF e he).2 (by decide)⟩)
  | .intMul t d, s, half, node, F, N, H, n0, n1, hs, nF, hF => by
    obtain ⟨⟨t0, t1⟩, h4, H'⟩ := H
    have r := root_in W t0 t1
    have ed : (dst (.intMul t d) : Int) = dst d + 1 := by show ((dst d + 1 : Nat) : Int) = _; omega
    refine yl_nd W E d N 1 (ft G t) F (N + 1) H' r.1 r.2.1 (by omega) nF (fun e he => ?_)
    have a := (hF e he).1
    rw [ed] at a
    exact ⟨by omega, fun _ z => a (by omega)⟩
  | .natMul m d, s, half, node, F, N, H, n0, n1, hs, nF, hF => by
    obtain ⟨rfl, k0, c2', H'⟩ := H
    have c := (ch_in W n0 n1 k0).1
    have e0 := ((E.1 node n0 n1).2 k0)
    have e1 := e0.2.1 c2'
    refine yl_nd W E d s 1 (c1 G node) F N H' c.2.1 c.2.2.1 hs nF (fun e he => ⟨(hF e he).1, fun _ z => (hF e he).2 (by decide) ⟨z.1, ?_⟩⟩)
    have a := z.2
    unfold off at a ⊢
    rw [c.2.2.2] at a
    omega
  | .add x y, s, half, node, F, N, H, n0, n1, hs, nF, hF => by
    obtain ⟨rfl, k0, c2', Hx, Hy⟩ := H
    have c := (ch_in W n0 n1 k0).1
    have c' := (ch_in W n0 n1 k0).2 c2'
    have e0 := ((E.1 node n0 n1).2 k0)
    have e1 := e0.2.2 c2'
    have g1 := en_gt W E (nN G - c1 G node).toNat (c1 G node) c.2.1 c.2.2.1 (by omega)
    have g2 := en_gt W E (nN G - c2 G node).toNat (c2 G node) c'.2.1 c'.2.2.1 (by omega)
    have ss := (wf_sp W n0 n1).2.2.2 k0
    rw [if_neg c2'] at ss
    have sn := (wf_sp W n0 n1).1
    have s1 := (wf_sp W c.2.1 c.2.2.1).1
    have s2 := (wf_sp W c'.2.1 c'.2.2.1).1
    have ed : (dst (.add x y) : Int) = dst x + dst y := by show ((dst x + dst y : Nat) : Int) = _; omega
    -- the foot is in one of them
    obtain ⟨Fx, Fy, ex, ey, nx, ny, hx, hy, hxy⟩ : ∃ Fx Fy : List (Int × Int), yl G x s (c1 G node) F N = yl G x s (c1 G node) Fx N ∧ yl G y s (c2 G node) F (N + dst x) = yl G y s (c2 G node) Fy (N + dst x) ∧ Fx.Nodup ∧ Fy.Nodup ∧ (∀ e ∈ Fx, e ∈ F) ∧ (∀ e ∈ Fy, e ∈ F) ∧ (Fx = [] ∨ Fy = []) := by
      rcases s1 with z | z
      · exact ⟨[], F, yl_nofoot W x s 1 (c1 G node) F [] N Hx c.2.1 c.2.2.1 (fun _ => z) (fun z => absurd z (by decide)), rfl, List.nodup_nil, nF, fun e he => absurd he (List.not_mem_nil), fun e he => he, Or.inl rfl⟩
      · have z2 : sp G (c2 G node) = 0 := by omega
        exact ⟨F, [], rfl, yl_nofoot W y s 1 (c2 G node) F [] _ Hy c'.2.1 c'.2.2.1 (fun _ => z2) (fun z => absurd z (by decide)), nF, List.nodup_nil, fun e he => he, fun e he => absurd he (List.not_mem_nil), Or.inr rfl⟩
    have kx := yl_nd W E x s 1 (c1 G node) Fx N Hx c.2.1 c.2.2.1 hs nx (fun e he => by
      have a := hF e (hx e he)
      rw [ed] at a
      refine ⟨fun z => a.1 (by omega), fun _ z => a.2 (by decide) ⟨z.1, ?_⟩⟩
      have b := z.2
      unfold off at b ⊢
      rw [c.2.2.2] at b
      omega)
    have ky := yl_nd W E y s 1 (c2 G node) Fy (N + dst x) Hy c'.2.1 c'.2.2.1 (by omega) ny (fun e he => by
      have a := hF e (hy e he)
      rw [ed] at a
      refine ⟨fun z => a.1 (by omega), fun _ z => a.2 (by decide) ⟨z.1, ?_⟩⟩
      have b := z.2
      unfold off at b ⊢
      rw [c'.2.2.2] at b
      omega)
    show (yl G x s (c1 G node) F N ++ yl G y s (c2 G node) F (N + dst x)).Nodup
    rw [ex, ey]
    refine List.nodup_append.mpr ⟨kx, ky, ?_⟩
    intro a ha b hb hab
    subst hab
    have mx := yl_mem W E x s 1 (c1 G node) Fx N Hx c.2.1 c.2.2.1 a ha
    have my := yl_mem W E y s 1 (c2 G node) Fy (N + dst x) Hy c'.2.1 c'.2.2.1 a hb
    unfold off at mx my
    rw [c.2.2.2] at mx
    rw [c'.2.2.2] at my
    rcases mx with mx | mx | mx
    · have fa := hF a (hx a mx)
      rw [ed] at fa
      rcases my with my | my | my
      · rcases hxy with z | z
        · rw [z] at mx; exact absurd mx (List.not_mem_nil)
        · rw [z] at my; exact absurd my (List.not_mem_nil)
      · exact fa.2 (by decide) ⟨my.2.1, by have := my.2.2; unfold off; omega⟩
      · exact fa.1 (by omega)
    · rcases my with my | my | my
      · have fa := hF a (hy a my)
        rw [ed] at fa
        exact fa.2 (by decide) ⟨mx.2.1, by have := mx.2.2; unfold off; omega⟩
      · have := mx.2.2; have := my.2.2; omega
      · have := mx.2.1; omega
    · rcases my with my | my | my
      · have fa := hF a (hy a my)
        rw [ed] at fa
        exact fa.1 (by omega)
      · have := my.2.1; omega
      · omega
  | .sub x d, s, half, node, F, N, H, n0, n1, hs, nF, hF => by
    obtain ⟨rfl, k0, Hx, Hd⟩ := H
    have ed : (dst (.sub x d) : Int) = dst x + dst d := by show ((dst x + dst d : Nat) : Int) = _; omega
    have kd' := yl_nd W E d s 0 node F (N + dst x) Hd n0 n1 (by omega) nF (fun e he => by
      have a := hF e he
      rw [ed] at a
      exact ⟨fun z => a.1 (by omega), fun _ => a.2 (by decide)⟩)
    refine yl_nd W E x s 2 node _ N Hx n0 n1 hs kd' (fun e he => ⟨?_, fun z => absurd rfl z⟩)
    rcases yl_mem W E d s 0 node F (N + dst x) Hd n0 n1 e he with z | z | z
    · have a := (hF e z).1
      rw [ed] at a
      omega
    · have := z.2.1; omega
    · omega
end
theorem nd_inj {β : Type} {ls : List β} (nd : ls.Nodup) {i j : Nat} {e : β} (h1 : ls[i]? = some e) (h2 : ls[j]? = some e) : i = j := by
  have hi : i < ls.length := by
    by_cases hh : i < ls.length
    · exact hh
    · rw [List.getElem?_eq_none (by omega)] at h1
      exact absurd h1 (by simp)
  exact (List.getElem?_inj hi nd).mp (by rw [h1, h2])
section
variable {G : Gm}
/-- the trees of the steps are trees -/
theorem lay_tr : ∀ (d : Dv) (s half node : Int) (st : St), Sh G d half node → (∀ s' : Int, 0 ≤ s' → s' < (st.length : Int) → 0 ≤ (sEnt st s').1 ∧ (sEnt st s').1 < nT G) → ∀ s' : Int, 0 ≤ s' → s' < ((lay G d s node st).length : Int) → 0 ≤ (sEnt (lay G d s node st) s').1 ∧ (sEnt (lay G d s node st) s').1 < nT G
  | .zero, s, half, node, st, H, h, s', a, b => h s' a b
  | .var _, s, half, node, st, H, h, s', a, b => h s' a b
  | .neg d, s, half, node, st, H, h, s', a, b => lay_tr d s 0 node st H.2.2 h s' a b
  | .intMul t d, s, half, node, st, H, h, s', a, b => by
    refine lay_tr d st.length 1 (ft G t) ((t, s, off G node) :: st) H.2.2 ?_ s' a b
    intro s'' a' b'
    have b2 : s'' < ((st.length + 1 : Nat) : Int) := b'
    show 0 ≤ (if s'' = (st.length : Int) then (t, s, off G node) else sEnt st s'').1 ∧ (if s'' = (st.length : Int) then (t, s, off G node) else sEnt st s'').1 < nT G
    by_cases e : s'' = (st.length : Int)
    · rw [if_pos e]; exact H.1
    · rw [if_neg e]; exact h s'' a' (by omega)
  | .natMul _ d, s, half, node, st, H, h, s', a, b => lay_tr d s 1 _ st H.2.2.2 h s' a b
  | .add x y, s, half, node, st, H, h, s', a, b => lay_tr y s 1 _ _ H.2.2.2.2 (fun s'' a' b' => lay_tr x s 1 _ st H.2.2.2.1 h s'' a' b') s' a b
  | .sub x d, s, half, node, st, H, h, s', a, b => lay_tr d s 0 _ _ H.2.2.2 (fun s'' a' b' => lay_tr x s 2 _ st H.2.2.1 h s'' a' b') s' a b
theorem stW_tr (I : GIn G) {t : Int} {d : Dv} (t0 : 0 ≤ t) (t1 : t < nT G) (sh : Sh G d 1 (ft G t)) {s : Int} (a : 0 ≤ s) (b : s < ((stW G t d).length : Int)) : 0 ≤ (sEnt (stW G t d) s).1 ∧ (sEnt (stW G t d) s).1 < nT G :=
  lay_tr d 0 1 (ft G t) [(t, -1, -1)] sh (fun s' a' b' => by
    have b2 : s' < ((1 : Nat) : Int) := b'
    have : s' = 0 := by omega
    subst this
    exact ⟨t0, t1⟩) s a b
end
/-- guests have a foot -/
def Gu (G : Gm) : Dv → Prop
  | .zero => True
  | .var _ => True
  | .neg d => Gu G d
  | .intMul _ d => Gu G d
  | .natMul _ d => Gu G d
  | .add x y => Gu G x ∧ Gu G y
  | .sub x d => (∃ t o, x = .intMul t o ∧ sp G (ft G t) = 1) ∧ Gu G x ∧ Gu G d
section
variable {G : Gm} {ou : Int → Bool} {row : Int → Int}
theorem Nth_Gu (I : GIn G) : ∀ (d : Dv) (half node i j p q : Int) (k : Nat), itm G half node i j p q → k < wW G ou row half node i j p q → Nth G ou row d half node i j p q k → Gu G d
  | .zero, half, node, i, j, p, q, k, h, hk, N => trivial
  | .var _, _, _, _, _, _, _, _, _, _, N => trivial
  | .neg d, half, node, i, j, p, q, k, h, hk, N => by
    obtain ⟨rfl, k0, -, hl, n⟩ := N
    exact Nth_Gu I d 0 node i j p q k (half_item h).1 hl n
  | .intMul t d, half, node, i, j, p, q, k, h, hk, N => by
    obtain ⟨k4, ep, eq, k', P, t0, t1, hg, hs, f1, hk', n, hfr, g⟩ := inv_place I h N
    exact Nth_Gu I d 1 (ft G t) i j (-1) (-1) k' f1 hk' n
  | .natMul m d, half, node, i, j, p, q, k, h, hk, N => by
    obtain ⟨rfl⟩ := N.1
    obtain ⟨k0, c2', f1, hk', n, -, g⟩ := inv_unary I h hk N
    exact Nth_Gu I d _ _ _ _ _ _ _ f1 hk' n
  | .add x y, half, node, i, j, p, q, k, h, hk, N => by
    obtain ⟨rfl⟩ := N.1
    obtain ⟨k0, c2', m, k1, P, m0, m1, -, -, f1, f2, r2, r3, nx, ny, -, -, g⟩ := inv_split I h N
    exact ⟨Nth_Gu I x _ _ _ _ _ _ _ f1 r2 nx, Nth_Gu I y _ _ _ _ _ _ _ f2 r3 ny⟩
  | .sub (.intMul t' o') d, half, node, i, j, p, q, k, h, hk, N => by
    obtain ⟨rfl⟩ := N.1
    obtain ⟨k0, m1, hb, t, k1, a, k2, c, k3, o, ex, P1, P2, P3, t0, t1, hg, hs, f1, f2, r2, r3, no, n, -, -, g⟩ := inv_guest I h N
    obtain ⟨e1, e2⟩ : t' = t ∧ o' = o := by
      injection ex with a b
      exact ⟨a, b⟩
    subst e1 e2
    exact ⟨⟨t', o', rfl, hs⟩, Nth_Gu I o' _ _ _ _ _ _ _ f2 r2 no, Nth_Gu I d _ _ _ _ _ _ _ f1 r3 n⟩
  | .sub .zero d, half, node, i, j, p, q, k, h, hk, N => by
    obtain ⟨-, -, -, -, t, k1, a, k2, c, k3, P1, P2, P3, nx, n⟩ := N
    exact absurd rfl nx.1
  | .sub (.var _) d, half, node, i, j, p, q, k, h, hk, N => by
    obtain ⟨-, -, -, -, t, k1, a, k2, c, k3, P1, P2, P3, nx, n⟩ := N
    exact False.elim nx
  | .sub (.neg _) d, half, node, i, j, p, q, k, h, hk, N => by
    obtain ⟨-, -, -, -, t, k1, a, k2, c, k3, P1, P2, P3, nx, n⟩ := N
    exact absurd nx.1 (by decide)
  | .sub (.natMul _ _) d, half, node, i, j, p, q, k, h, hk, N => by
    obtain ⟨-, -, -, -, t, k1, a, k2, c, k3, P1, P2, P3, nx, n⟩ := N
    exact absurd nx.1 (by decide)
  | .sub (.add _ _) d, half, node, i, j, p, q, k, h, hk, N => by
    obtain ⟨-, -, -, -, t, k1, a, k2, c, k3, P1, P2, P3, nx, n⟩ := N
    exact absurd nx.1 (by decide)
  | .sub (.sub _ _) d, half, node, i, j, p, q, k, h, hk, N => by
    obtain ⟨-, -, -, -, t, k1, a, k2, c, k3, P1, P2, P3, nx, n⟩ := N
    exact absurd nx.1 (by decide)
end
