/-! test: how many steps the tree has -/
def Hg (st : St) : Nat → Int → Int → Int → Prop
  | 0, _, _, _ => False
  | f + 1, x, s, b => ((sEnt st x).2.1 = s ∧ (sEnt st x).2.2 = b) ∨ (0 ≤ (sEnt st x).2.1 ∧ Hg st f (sEnt st x).2.1 s b)
def vs (G : Gm) (st : St) : Dv → Int → Int → List Int
  | .zero, _, _ => []
  | .var _, _, _ => []
  | .neg d, s, node => vs G st d s node
  | .intMul t d, s, node => sPut st s (off G node) :: vs G st d (sPut st s (off G node)) (ft G t)
  | .natMul _ d, s, node => vs G st d s (c1 G node)
  | .add x y, s, node => vs G st x s (c1 G node) ++ vs G st y s (c2 G node)
  | .sub x d, s, node => vs G st x s node ++ vs G st d s node
section
variable {G : Gm} {st : St} {en : Int → Int}
theorem vs_len : ∀ (d : Dv) (s node : Int), (vs G st d s node).length = dst d
  | .zero, _, _ => rfl
  | .var _, _, _ => rfl
  | .neg d, s, node => vs_len d s node
  | .intMul t d, s, node => by
    show (vs G st d (sPut st s (off G node)) (ft G t)).length + 1 = dst d + 1
    rw [vs_len d]
  | .natMul _ d, s, node => vs_len d s (c1 G node)
  | .add x y, s, node => by
    show (vs G st x s (c1 G node) ++ vs G st y s (c2 G node)).length = dst x + dst y
    rw [List.length_append, vs_len x, vs_len y]
  | .sub x d, s, node => by
    show (vs G st x s node ++ vs G st d s node).length = dst x + dst d
    rw [List.length_append, vs_len x, vs_len d]
/-- who hangs on whom is older -/
def Old (st : St) : Prop := ∀ x : Int, 0 ≤ x → x < (st.length : Int) → (sEnt st x).2.1 < x
theorem Hg_gt (O : Old st) : ∀ (f : Nat) (x s b : Int), x < (st.length : Int) → 0 ≤ s → 0 ≤ x → Hg st f x s b → s < x
  | 0, _, _, _, _, _, _, h => False.elim h
  | f + 1, x, s, b, h1, s0, x0, h => by
    have o := O x x0 h1
    rcases h with z | z
    · omega
    · have := Hg_gt O f _ s b (by omega) s0 z.1 z.2
      omega
/-- one place only -/
theorem Hg_one (O : Old st) : ∀ (f f' : Nat) (x s b b' : Int), 0 ≤ x → x < (st.length : Int) → 0 ≤ s → (∀ y : Int, 1 ≤ y → y < (st.length : Int) → 0 ≤ (sEnt st y).2.1) → 1 ≤ x → Hg st f x s b → Hg st f' x s b' → b = b'
  | 0, _, _, _, _, _, _, _, _, _, _, h, _ => False.elim h
  | _ + 1, 0, _, _, _, _, _, _, _, _, _, _, h => False.elim h
  | f + 1, f' + 1, x, s, b, b', x0, x1, s0, N, xx, h, h' => by
    have o := O x x0 x1
    have nx := N x xx x1
    rcases h with z | z
    · rcases h' with z' | z'
      · omega
      · have := Hg_gt O f' _ s b' (by omega) s0 nx z'.2
        omega
    · have g := Hg_gt O f _ s b (by omega) s0 nx z.2
      rcases h' with z' | z'
      · omega
      · exact Hg_one O f f' _ s b b' nx (by omega) s0 N (by omega) z.2 z'.2
theorem Hg_tr : ∀ (f : Nat) (x y s b m : Int), 0 ≤ y → Hg st f x y m → (sEnt st y).2.1 = s → (sEnt st y).2.2 = b → ∃ f', Hg st f' x s b
  | 0, _, _, _, _, _, _, h, _, _ => False.elim h
  | f + 1, x, y, s, b, m, y0, h, e1, e2 => by
    rcases h with z | z
    · exact ⟨2, Or.inr (by rw [z.1]; exact ⟨y0, Or.inl ⟨e1, e2⟩⟩)⟩
    · obtain ⟨f', w⟩ := Hg_tr f _ y s b m y0 z.2 e1 e2
      exact ⟨f' + 1, Or.inr ⟨z.1, w⟩⟩
theorem pig : ∀ (k : Nat) (l : List Int), l.Nodup → (∀ x ∈ l, 1 ≤ x ∧ x ≤ (k : Int)) → l.length ≤ k
  | 0, l, _, h => by
    cases l with
    | nil => exact Nat.le_refl 0
    | cons a r => have := h a (List.mem_cons_self ..); omega
  | k + 1, l, nd, h => by
    have ih := pig k (l.erase ((k : Int) + 1)) (nd.erase _) (fun x hx => by
      have hm := (List.Nodup.mem_erase_iff nd).mp hx
      have := h x hm.2
      have := hm.1
      omega)
    have : l.length ≤ (l.erase ((k : Int) + 1)).length + 1 := by
      by_cases hm : (k : Int) + 1 ∈ l
      · rw [List.length_erase_of_mem hm]; omega
      · rw [List.erase_of_not_mem hm]; omega
    omega
/-- the steps of a tree: all different, each hangs where it should -/
theorem vs_nd (W : WF G) (E : EnP G en) (O : Old st) (N : ∀ y : Int, 1 ≤ y → y < (st.length : Int) → 0 ≤ (sEnt st y).2.1) : ∀ (d : Dv) (s half node : Int), 0 ≤ s → s < (st.length : Int) → 0 ≤ node → node < nN G → At G st 0 st.length d s half node →
    (vs G st d s node).Nodup ∧ ∀ x ∈ vs G st d s node, (1 ≤ x ∧ x < (st.length : Int)) ∧ ∃ f b, Hg st f x s b ∧ rLo G half node ≤ b ∧ b < rHi G en half node
  | .zero, s, half, node, s0, s1, n0, n1, A => ⟨List.nodup_nil, fun x hx => absurd hx (List.not_mem_nil)⟩
  | .var _, s, half, node, s0, s1, n0, n1, A => False.elim A
  | .neg d, s, half, node, s0, s1, n0, n1, A => by
    obtain ⟨h1, k0, -, A'⟩ := A
    obtain ⟨i1, i2⟩ := vs_nd W E O N d s 0 node s0 s1 n0 n1 A'
    refine ⟨i1, fun x hx => ?_⟩
    obtain ⟨a, f, b, hg, b0, b1⟩ := i2 x hx
    refine ⟨a, f, b, hg, ?_, ?_⟩
    · unfold rLo at b0 ⊢
      rw [if_pos rfl] at b0
      rw [if_neg (by omega)]
      omega
    · unfold rHi at b1 ⊢
      rw [if_neg (by decide)] at b1
      rw [if_neg (by omega)]
      exact b1
  | .intMul t d, s, half, node, s0, s1, n0, n1, A => by
    obtain ⟨⟨t0, t1⟩, hh, s', ⟨q0, q1⟩, e1, e2, A'⟩ := A
    have r := root_in W t0 t1
    have gt : s < s' := by
      have := O s' q0 q1
      rw [e2] at this
      exact this
    obtain ⟨i1, i2⟩ := vs_nd W E O N d s' 1 (ft G t) q0 q1 r.1 r.2.1 A'
    have eg := en_gt W E (nN G - node).toNat node n0 n1 (by omega)
    have reg : rLo G half node ≤ off G node ∧ off G node < rHi G en half node := by
      unfold rLo rHi
      by_cases h2 : half = 2
      · rw [if_neg (by omega), if_pos h2]; omega
      · have := (hh h2).1
        rw [if_neg (by omega), if_neg h2]
        unfold off
        omega
    show (sPut st s (off G node) :: vs G st d (sPut st s (off G node)) (ft G t)).Nodup ∧ ∀ x ∈ sPut st s (off G node) :: vs G st d (sPut st s (off G node)) (ft G t), _
    rw [e1]
    refine ⟨List.nodup_cons.mpr ⟨fun hm => ?_, i1⟩, fun x hx => ?_⟩
    · obtain ⟨a, f, b, hg, -, -⟩ := i2 s' hm
      have := Hg_gt O f s' s' b q1 q0 q0 hg
      omega
    · rcases List.mem_cons.mp hx with z | z
      · rw [z]
        exact ⟨⟨by omega, q1⟩, 1, off G node, Or.inl (by rw [e2]; exact ⟨rfl, rfl⟩), reg⟩
      · obtain ⟨a, f, b, hg, -, -⟩ := i2 x z
        obtain ⟨f', hg'⟩ := Hg_tr f x s' s (off G node) b q0 hg (by rw [e2]) (by rw [e2])
        exact ⟨a, f', off G node, hg', reg⟩
  | .natMul _ d, s, half, node, s0, s1, n0, n1, A => by
    obtain ⟨h0, k0, h2, A'⟩ := A
    have c := ch_in W n0 n1 k0
    have e := (E.1 node n0 n1).2 k0
    obtain ⟨i1, i2⟩ := vs_nd W E O N d s 1 (c1 G node) s0 s1 c.1.2.1 c.1.2.2.1 A'
    refine ⟨i1, fun x hx => ?_⟩
    obtain ⟨a, f, b, hg, b0, b1⟩ := i2 x hx
    have ee := e.2.1 h2
    refine ⟨a, f, b, hg, ?_, ?_⟩
    · unfold rLo off at b0 ⊢
      rw [if_neg (by decide), c.1.2.2.2] at b0
      rw [if_pos h0]
      have := c.1.1
      omega
    · unfold rHi at b1 ⊢
      rw [if_neg (by decide), c.1.2.2.2] at b1
      rw [if_neg (by omega)]
      omega
  | .add x y, s, half, node, s0, s1, n0, n1, A => by
    obtain ⟨h0, k0, h2, A1, A2⟩ := A
    have c := ch_in W n0 n1 k0
    have c' := c.2 h2
    have e := (E.1 node n0 n1).2 k0
    have ee := e.2.2 h2
    obtain ⟨i1, i2⟩ := vs_nd W E O N x s 1 (c1 G node) s0 s1 c.1.2.1 c.1.2.2.1 A1
    obtain ⟨j1, j2⟩ := vs_nd W E O N y s 1 (c2 G node) s0 s1 c'.2.1 c'.2.2.1 A2
    have rx : rLo G 1 (c1 G node) = c1 G node - ft G (tr G node) + 0 ∧ rHi G en 1 (c1 G node) = en (c1 G node) - ft G (tr G node) := by
      unfold rLo rHi off
      rw [if_neg (by decide), if_neg (by decide), c.1.2.2.2]
      exact ⟨rfl, rfl⟩
    have ry : rLo G 1 (c2 G node) = c2 G node - ft G (tr G node) + 0 ∧ rHi G en 1 (c2 G node) = en (c2 G node) - ft G (tr G node) := by
      unfold rLo rHi off
      rw [if_neg (by decide), if_neg (by decide), c'.2.2.2]
      exact ⟨rfl, rfl⟩
    have rr : rLo G half node = node - ft G (tr G node) + 1 ∧ rHi G en half node = en node - ft G (tr G node) := by
      unfold rLo rHi off
      rw [if_pos h0, if_neg (by omega)]
      exact ⟨rfl, rfl⟩
    have cg := c.1.1
    have cg' := c'.1
    have g1 := en_gt W E (nN G - c1 G node).toNat (c1 G node) c.1.2.1 c.1.2.2.1 (by omega)
    have g2 := en_gt W E (nN G - c2 G node).toNat (c2 G node) c'.2.1 c'.2.2.1 (by omega)
    show (vs G st x s (c1 G node) ++ vs G st y s (c2 G node)).Nodup ∧ ∀ z ∈ vs G st x s (c1 G node) ++ vs G st y s (c2 G node), _
    refine ⟨List.nodup_append.mpr ⟨i1, j1, fun a ha b hb => ?_⟩, fun z hz => ?_⟩
    · intro eq
      rw [← eq] at hb
      obtain ⟨a1, f, b, hg, b0, b1⟩ := i2 a ha
      obtain ⟨a2, f', b', hg', b0', b1'⟩ := j2 a hb
      have := Hg_one O f f' a s b b' (by omega) a1.2 s0 N a1.1 hg hg'
      omega
    · rcases List.mem_append.mp hz with w | w
      · obtain ⟨a1, f, b, hg, b0, b1⟩ := i2 z w
        exact ⟨a1, f, b, hg, by omega, by omega⟩
      · obtain ⟨a1, f, b, hg, b0, b1⟩ := j2 z w
        exact ⟨a1, f, b, hg, by omega, by omega⟩
  | .sub x d, s, half, node, s0, s1, n0, n1, A => by
    obtain ⟨h1, k0, A1, A2⟩ := A
    obtain ⟨i1, i2⟩ := vs_nd W E O N x s 2 node s0 s1 n0 n1 A1
    obtain ⟨j1, j2⟩ := vs_nd W E O N d s 0 node s0 s1 n0 n1 A2
    have rx : rLo G 2 node = off G node + 0 ∧ rHi G en 2 node = off G node + 1 := by
      unfold rLo rHi
      rw [if_neg (by decide), if_pos rfl]
      exact ⟨rfl, rfl⟩
    have ry : rLo G 0 node = off G node + 1 ∧ rHi G en 0 node = en node - ft G (tr G node) := by
      unfold rLo rHi
      rw [if_pos rfl, if_neg (by decide)]
      exact ⟨rfl, rfl⟩
    have rr : rLo G half node = off G node + 0 ∧ rHi G en half node = en node - ft G (tr G node) := by
      unfold rLo rHi
      rw [if_neg (by omega), if_neg (by omega)]
      exact ⟨rfl, rfl⟩
    have g1 := en_gt W E (nN G - node).toNat node n0 n1 (by omega)
    have eo : off G node = node - ft G (tr G node) := rfl
    show (vs G st x s node ++ vs G st d s node).Nodup ∧ ∀ z ∈ vs G st x s node ++ vs G st d s node, _
    refine ⟨List.nodup_append.mpr ⟨i1, j1, fun a ha b hb => ?_⟩, fun z hz => ?_⟩
    · intro eq
      rw [← eq] at hb
      obtain ⟨a1, f, b, hg, b0, b1⟩ := i2 a ha
      obtain ⟨a2, f', b', hg', b0', b1'⟩ := j2 a hb
      have := Hg_one O f f' a s b b' (by omega) a1.2 s0 N a1.1 hg hg'
      omega
    · rcases List.mem_append.mp hz with w | w
      · obtain ⟨a1, f, b, hg, b0, b1⟩ := i2 z w
        exact ⟨a1, f, b, hg, by omega, by omega⟩
      · obtain ⟨a1, f, b, hg, b0, b1⟩ := j2 z w
        exact ⟨a1, f, b, hg, by omega, by omega⟩
theorem dst_le (W : WF G) (E : EnP G en) (O : Old st) (N : ∀ y : Int, 1 ≤ y → y < (st.length : Int) → 0 ≤ (sEnt st y).2.1) {d : Dv} {node : Int} (l0 : 0 < st.length) (n0 : 0 ≤ node) (n1 : node < nN G) (A : At G st 0 st.length d 0 1 node) : dst d + 1 ≤ st.length := by
  obtain ⟨i1, i2⟩ := vs_nd W E O N d 0 1 node (Int.le_refl 0) (by omega) n0 n1 A
  have := pig (st.length - 1) _ i1 (fun x hx => by
    have := (i2 x hx).1
    omega)
  rw [vs_len] at this
  omega
end
