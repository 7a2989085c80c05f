/-! the steps of a way, the newest first; how a tree is laid into them -/
abbrev St : Type := List (Int × Int × Int)
def sEnt : St → Int → Int × Int × Int
  | [], _ => (0, 0, 0)
  | x :: r, s => if s = r.length then x else sEnt r s
def sPut : St → Int → Int → Int
  | [], _, _ => -1
  | x :: r, s, n => if x.2.1 = s ∧ x.2.2 = n then r.length else sPut r s n
def off (G : Gm) (node : Int) : Int := node - ft G (tr G node)
def lay (G : Gm) : Dv → Int → Int → St → St
  | .zero, _, _, st => st
  | .var _, _, _, st => st
  | .neg d, s, node, st => lay G d s node st
  | .intMul t d, s, node, st => lay G d st.length (ft G t) ((t, s, off G node) :: st)
  | .natMul _ d, s, node, st => lay G d s (c1 G node) st
  | .add x y, s, node, st => lay G y s (c2 G node) (lay G x s (c1 G node) st)
  | .sub x d, s, node, st => lay G d s node (lay G x s node st)
/-- the shape of a tree: what stands where -/
def Sh (G : Gm) : Dv → Int → Int → Prop
  | .zero, half, node => half = 1 ∧ (kd G node = 1 ∨ kd G node = 2 ∨ kd G node = 3)
  | .var _, _, _ => False
  | .neg d, half, node => half = 1 ∧ kd G node = 0 ∧ Sh G d 0 node
  | .intMul t d, half, node => (0 ≤ t ∧ t < nT G) ∧ (half ≠ 2 → half = 1 ∧ kd G node = 4 ∧ sp G (ft G t) = 0) ∧ Sh G d 1 (ft G t)
  | .natMul _ d, half, node => half = 0 ∧ kd G node = 0 ∧ c2 G node = -1 ∧ Sh G d 1 (c1 G node)
  | .add x y, half, node => half = 0 ∧ kd G node = 0 ∧ c2 G node ≠ -1 ∧ Sh G x 1 (c1 G node) ∧ Sh G y 1 (c2 G node)
  | .sub x d, half, node => half = 1 ∧ kd G node = 0 ∧ Sh G x 2 node ∧ Sh G d 0 node
/-- the steps hold a tree: its own steps are those from L on, below M -/
def At (G : Gm) (st : St) (L M : Int) : Dv → Int → Int → Int → Prop
  | .zero, s, half, node => half = 1 ∧ (kd G node = 1 ∨ kd G node = 2 ∨ kd G node = 3) ∧ sPut st s (off G node) = -1
  | .var _, _, _, _ => False
  | .neg d, s, half, node => half = 1 ∧ kd G node = 0 ∧ sPut st s (off G node) = -1 ∧ At G st L M d s 0 node
  | .intMul t d, s, half, node => (0 ≤ t ∧ t < nT G) ∧ (half ≠ 2 → half = 1 ∧ kd G node = 4 ∧ sp G (ft G t) = 0) ∧ ∃ s', (L ≤ s' ∧ s' < M) ∧ sPut st s (off G node) = s' ∧ sEnt st s' = (t, s, off G node) ∧ At G st L M d s' 1 (ft G t)
  | .natMul _ d, s, half, node => half = 0 ∧ kd G node = 0 ∧ c2 G node = -1 ∧ At G st L M d s 1 (c1 G node)
  | .add x y, s, half, node => half = 0 ∧ kd G node = 0 ∧ c2 G node ≠ -1 ∧ At G st L M x s 1 (c1 G node) ∧ At G st L M y s 1 (c2 G node)
  | .sub x d, s, half, node => half = 1 ∧ kd G node = 0 ∧ At G st L M x s 2 node ∧ At G st L M d s 0 node
section
variable {G : Gm} {ou : Int → Bool} {row : Int → Int}
theorem Nth_Sh (I : GIn G) : ∀ (d : Dv) (half node i j p q : Int) (k : Nat), itm G half node i j p q → k < wW G ou row half node i j p q → (half = 0 → kd G node = 0) → Nth G ou row d half node i j p q k → Sh G d half node
  | .zero, half, node, i, j, p, q, k, h, hk, hz, N => ⟨by have := h.1; have := N.2.1; omega, N.2.1⟩
  | .var _, _, _, _, _, _, _, _, _, _, _, N => False.elim N
  | .neg d, half, node, i, j, p, q, k, h, hk, hz, N => by
    obtain ⟨rfl, k0, -, hl, n⟩ := N
    exact ⟨rfl, k0, Nth_Sh I d 0 node i j p q k (half_item h).1 hl (fun _ => k0) n⟩
  | .intMul t d, half, node, i, j, p, q, k, h, hk, hz, N => by
    obtain ⟨k4, ep, eq, k', P, t0, t1, hg, hs, f1, hk', n, hfr, g⟩ := inv_place I h N
    exact ⟨⟨t0, t1⟩, fun _ => ⟨by have := h.1; omega, k4, hs⟩, Nth_Sh I d 1 (ft G t) i j (-1) (-1) k' f1 hk' (fun z => absurd z (by decide)) n⟩
  | .natMul m d, half, node, i, j, p, q, k, h, hk, hz, N => by
    obtain ⟨rfl⟩ := N.1
    obtain ⟨k0, c2', f1, hk', n, -, g⟩ := inv_unary I h hk N
    exact ⟨rfl, k0, c2', Nth_Sh I d _ _ _ _ _ _ _ f1 hk' (fun z => absurd z (by decide)) n⟩
  | .add x y, half, node, i, j, p, q, k, h, hk, hz, N => by
    obtain ⟨rfl⟩ := N.1
    obtain ⟨k0, c2', m, k1, P, m0, m1, -, -, f1, f2, r2, r3, nx, ny, -, -, g⟩ := inv_split I h N
    exact ⟨rfl, k0, c2', Nth_Sh I x _ _ _ _ _ _ _ f1 r2 (fun z => absurd z (by decide)) nx, Nth_Sh I y _ _ _ _ _ _ _ f2 r3 (fun z => absurd z (by decide)) ny⟩
  | .sub (.intMul t' o') d, half, node, i, j, p, q, k, h, hk, hz, N => by
    obtain ⟨rfl⟩ := N.1
    obtain ⟨k0, m1, hb, t, k1, a, k2, c, k3, o, ex, P1, P2, P3, t0, t1, hg, hs, f1, f2, r2, r3, no, n, -, -, g⟩ := inv_guest I h N
    obtain ⟨e1, e2⟩ : t' = t ∧ o' = o := by
      injection ex with a b
      exact ⟨a, b⟩
    subst e1 e2
    exact ⟨rfl, k0, ⟨⟨t0, t1⟩, fun z => absurd rfl z, Nth_Sh I o' _ _ _ _ _ _ _ f2 r2 (fun z => absurd z (by decide)) no⟩, Nth_Sh I d _ _ _ _ _ _ _ f1 r3 (fun _ => k0) n⟩
  | .sub .zero d, half, node, i, j, p, q, k, h, hk, hz, N => by
    obtain ⟨-, -, -, -, t, k1, a, k2, c, k3, P1, P2, P3, nx, n⟩ := N
    exact absurd rfl nx.1
  | .sub (.var _) d, half, node, i, j, p, q, k, h, hk, hz, N => by
    obtain ⟨-, -, -, -, t, k1, a, k2, c, k3, P1, P2, P3, nx, n⟩ := N
    exact False.elim nx
  | .sub (.neg _) d, half, node, i, j, p, q, k, h, hk, hz, N => by
    obtain ⟨-, -, -, -, t, k1, a, k2, c, k3, P1, P2, P3, nx, n⟩ := N
    exact absurd nx.1 (by decide)
  | .sub (.natMul _ _) d, half, node, i, j, p, q, k, h, hk, hz, N => by
    obtain ⟨-, -, -, -, t, k1, a, k2, c, k3, P1, P2, P3, nx, n⟩ := N
    exact absurd nx.1 (by decide)
  | .sub (.add _ _) d, half, node, i, j, p, q, k, h, hk, hz, N => by
    obtain ⟨-, -, -, -, t, k1, a, k2, c, k3, P1, P2, P3, nx, n⟩ := N
    exact absurd nx.1 (by decide)
  | .sub (.sub _ _) d, half, node, i, j, p, q, k, h, hk, hz, N => by
    obtain ⟨-, -, -, -, t, k1, a, k2, c, k3, P1, P2, P3, nx, n⟩ := N
    exact absurd nx.1 (by decide)
theorem lay_len : ∀ (d : Dv) (s node : Int) (st : St), (lay G d s node st).length = st.length + dst d
  | .zero, _, _, st => rfl
  | .var _, _, _, st => rfl
  | .neg d, s, node, st => lay_len d s node st
  | .intMul t d, s, node, st => by
    show (lay G d st.length (ft G t) ((t, s, off G node) :: st)).length = st.length + (dst d + 1)
    rw [lay_len d]
    show st.length + 1 + dst d = _
    omega
  | .natMul _ d, s, node, st => lay_len d s _ st
  | .add x y, s, node, st => by
    show (lay G y s _ (lay G x s _ st)).length = st.length + (dst x + dst y)
    rw [lay_len y, lay_len x]
    omega
  | .sub x d, s, node, st => by
    show (lay G d s _ (lay G x s _ st)).length = st.length + (dst x + dst d)
    rw [lay_len d, lay_len x]
    omega
theorem lay_ent : ∀ (d : Dv) (s node : Int) (st : St) (s' : Int), s' < st.length → sEnt (lay G d s node st) s' = sEnt st s'
  | .zero, _, _, st, _, _ => rfl
  | .var _, _, _, st, _, _ => rfl
  | .neg d, s, node, st, s', h => lay_ent d s node st s' h
  | .intMul t d, s, node, st, s', h => by
    show sEnt (lay G d st.length (ft G t) ((t, s, off G node) :: st)) s' = _
    rw [lay_ent d _ _ _ s' (by show s' < ((st.length + 1 : Nat) : Int); omega)]
    show (if s' = st.length then (t, s, off G node) else sEnt st s') = _
    rw [if_neg (by omega)]
  | .natMul _ d, s, node, st, s', h => lay_ent d s _ st s' h
  | .add x y, s, node, st, s', h => by
    show sEnt (lay G y s _ (lay G x s _ st)) s' = _
    rw [lay_ent y _ _ _ s' (by rw [lay_len]; omega), lay_ent x _ _ _ s' h]
  | .sub x d, s, node, st, s', h => by
    show sEnt (lay G d s _ (lay G x s _ st)) s' = _
    rw [lay_ent d _ _ _ s' (by rw [lay_len]; omega), lay_ent x _ _ _ s' h]
end
