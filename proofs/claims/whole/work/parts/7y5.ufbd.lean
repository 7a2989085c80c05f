/-! bounds of what is reckoned; texts in the heap -/
section
variable {α : Type} {G : Gm} {en : Int → Int} {lt : Int → Int → α} {em : α} {fo im : α → α} {b1 : Int → α → α} {b2 : Int → α → α → α} {st : St}
theorem uf_bd (W : WF G) (E : EnP G en) (μ : α → Nat) (c e : Nat) (h1 : ∀ s n, μ (lt s n) ≤ c) (h2 : μ em ≤ c) (h3 : ∀ x, μ (fo x) ≤ μ x + c) (h4 : ∀ x, μ (im x) ≤ μ x + e) (h5 : ∀ n x, μ (b1 n x) ≤ μ x + c) (h6 : ∀ n x y, μ (b2 n x y) ≤ μ x + μ y + c) : ∀ (d : Dv) (s half node : Int) (F : α), Sh G d half node → 0 ≤ node → node < nN G →
    (half ≠ 2 → μ (uf G st lt em fo im b1 b2 d s node F) ≤ c * (en node - node).toNat + (12 * c + e) * dst d + (if sp G node = 1 then μ F else 0)) ∧ (half = 2 → μ (uf G st lt em fo im b1 b2 d s node F) ≤ (12 * c + e) * dst d + μ F)
  | .zero, s, half, node, F, H, n0, n1 => by
    refine ⟨fun _ => ?_, fun z => absurd z (by have := H.1; omega)⟩
    have g := en_gt W E (nN G - node).toNat node n0 n1 (by omega)
    have ee : c ≤ c * (en node - node).toNat := Nat.le_mul_of_pos_right _ (by omega)
    show μ (if kd G node = 1 then lt s node else if kd G node = 3 then fo F else em) ≤ _ + (12 * c + e) * 0 + _
    by_cases k1 : kd G node = 1
    · rw [if_pos k1]
      have := h1 s node
      omega
    · rw [if_neg k1]
      by_cases k3 : kd G node = 3
      · rw [if_pos k3, if_pos ((wf_sp W n0 n1).2.1 k3)]
        have := h3 F
        omega
      · rw [if_neg k3]
        omega
  | .var _, s, half, node, F, H, n0, n1 => False.elim H
  | .neg d, s, half, node, F, H, n0, n1 => by
    obtain ⟨rfl, k0, H'⟩ := H
    have ih := (uf_bd W E μ c e h1 h2 h3 h4 h5 h6 d s 0 node F H' n0 n1).1 (by decide)
    exact ⟨fun _ => ih, fun z => absurd z (by decide)⟩
  | .intMul t d, s, half, node, F, H, n0, n1 => by
    obtain ⟨⟨t0, t1⟩, h4', H'⟩ := H
    have r := root_in W t0 t1
    have ih := (uf_bd W E μ c e h1 h2 h3 h4 h5 h6 d (sPut st s (off G node)) 1 (ft G t) F H' r.1 r.2.1).1 (by decide)
    have e2 := E.2 t t0 t1
    have sw := (wf_step W t0 t1).2
    have i4 := h4 (uf G st lt em fo im b1 b2 d (sPut st s (off G node)) (ft G t) F)
    have g := en_gt W E (nN G - node).toNat node n0 n1 (by omega)
    have ee : c ≤ c * (en node - node).toNat := Nat.le_mul_of_pos_right _ (by omega)
    have e12 : c * (en (ft G t) - ft G t).toNat ≤ c * 12 := Nat.mul_le_mul_left _ (by omega)
    have ed : (12 * c + e) * (dst d + 1) = (12 * c + e) * dst d + (12 * c + e) := by rw [Nat.mul_add, Nat.mul_one]
    show (half ≠ 2 → μ (im (uf G st lt em fo im b1 b2 d (sPut st s (off G node)) (ft G t) F)) ≤ c * (en node - node).toNat + (12 * c + e) * (dst d + 1) + _) ∧ (half = 2 → μ (im (uf G st lt em fo im b1 b2 d (sPut st s (off G node)) (ft G t) F)) ≤ (12 * c + e) * (dst d + 1) + μ F)
    rw [ed]
    refine ⟨fun hz => ?_, fun hz => ?_⟩
    · rw [if_neg (by have := (h4' hz).2.2; omega)] at ih
      omega
    · have : (if sp G (ft G t) = 1 then μ F else 0) ≤ μ F := by split <;> omega
      omega
  | .natMul m d, s, half, node, F, H, n0, n1 => by
    obtain ⟨rfl, k0, c2', H'⟩ := H
    have cc := (ch_in W n0 n1 k0).1
    have ss := (wf_sp W n0 n1).2.2.2 k0
    rw [if_pos c2'] at ss
    have en0 := ((E.1 node n0 n1).2 k0)
    have e1 := en0.2.1 c2'
    have e0 := en0.1
    have ih := (uf_bd W E μ c e h1 h2 h3 h4 h5 h6 d s 1 (c1 G node) F H' cc.2.1 cc.2.2.1).1 (by decide)
    rw [show sp G (c1 G node) = sp G node by omega] at ih
    refine ⟨fun _ => ?_, fun z => absurd z (by decide)⟩
    have i5 := h5 node (uf G st lt em fo im b1 b2 d s (c1 G node) F)
    have ee : c * (en (c1 G node) - c1 G node).toNat + c ≤ c * (en node - node).toNat := by
      rw [← Nat.mul_succ]
      have g1 := en_gt W E (nN G - c1 G node).toNat (c1 G node) cc.2.1 cc.2.2.1 (by omega)
      exact Nat.mul_le_mul_left _ (by omega)
    show μ (b1 node (uf G st lt em fo im b1 b2 d s (c1 G node) F)) ≤ _ + (12 * c + e) * dst d + _
    omega
  | .add x y, s, half, node, F, H, n0, n1 => by
    obtain ⟨rfl, k0, c2', Hx, Hy⟩ := H
    have cc := (ch_in W n0 n1 k0).1
    have cc' := (ch_in W n0 n1 k0).2 c2'
    have ss := (wf_sp W n0 n1).2.2.2 k0
    rw [if_neg c2'] at ss
    have sn := (wf_sp W n0 n1).1
    have s1 := (wf_sp W cc.2.1 cc.2.2.1).1
    have s2 := (wf_sp W cc'.2.1 cc'.2.2.1).1
    have en0 := ((E.1 node n0 n1).2 k0)
    have e1 := en0.2.2 c2'
    have e0 := en0.1
    have ih1 := (uf_bd W E μ c e h1 h2 h3 h4 h5 h6 x s 1 (c1 G node) F Hx cc.2.1 cc.2.2.1).1 (by decide)
    have ih2 := (uf_bd W E μ c e h1 h2 h3 h4 h5 h6 y s 1 (c2 G node) F Hy cc'.2.1 cc'.2.2.1).1 (by decide)
    refine ⟨fun _ => ?_, fun z => absurd z (by decide)⟩
    have i6 := h6 node (uf G st lt em fo im b1 b2 x s (c1 G node) F) (uf G st lt em fo im b1 b2 y s (c2 G node) F)
    have g1 := en_gt W E (nN G - c1 G node).toNat (c1 G node) cc.2.1 cc.2.2.1 (by omega)
    have g2 := en_gt W E (nN G - c2 G node).toNat (c2 G node) cc'.2.1 cc'.2.2.1 (by omega)
    have ee : c * (en (c1 G node) - c1 G node).toNat + c * (en (c2 G node) - c2 G node).toNat + c ≤ c * (en node - node).toNat := by
      rw [← Nat.mul_add, ← Nat.mul_succ]
      exact Nat.mul_le_mul_left _ (by omega)
    have ed : (12 * c + e) * (dst x + dst y) = (12 * c + e) * dst x + (12 * c + e) * dst y := Nat.mul_add _ _ _
    have ef : (if sp G (c1 G node) = 1 then μ F else 0) + (if sp G (c2 G node) = 1 then μ F else 0) ≤ (if sp G node = 1 then μ F else 0) := by
      rcases s1 with a | a <;> rcases s2 with b | b
      · rw [a, b]; simp
      · rw [a, b, if_neg (by decide), if_pos rfl, if_pos (by omega)]; omega
      · rw [a, b, if_pos rfl, if_neg (by decide), if_pos (by omega)]; omega
      · omega
    show μ (b2 node (uf G st lt em fo im b1 b2 x s (c1 G node) F) (uf G st lt em fo im b1 b2 y s (c2 G node) F)) ≤ _ + (12 * c + e) * (dst x + dst y) + _
    rw [ed]
    omega
  | .sub x d, s, half, node, F, H, n0, n1 => by
    obtain ⟨rfl, k0, Hx, Hd⟩ := H
    have ih2 := (uf_bd W E μ c e h1 h2 h3 h4 h5 h6 d s 0 node F Hd n0 n1).1 (by decide)
    have ih1 := (uf_bd W E μ c e h1 h2 h3 h4 h5 h6 x s 2 node (uf G st lt em fo im b1 b2 d s node F) Hx n0 n1).2 rfl
    refine ⟨fun _ => ?_, fun z => absurd z (by decide)⟩
    have ed : (12 * c + e) * (dst x + dst d) = (12 * c + e) * dst x + (12 * c + e) * dst d := Nat.mul_add _ _ _
    show μ (uf G st lt em fo im b1 b2 x s node (uf G st lt em fo im b1 b2 d s node F)) ≤ _ + (12 * c + e) * (dst x + dst d) + _
    rw [ed]
    omega
end
/-- an object of bytes holds l, as much as there is room for -/
def ByT (h : Hp) (o c : Int) (m : Nat) (l : List Int) : Prop := h o 1 = ((min l.length m : Nat) : Int) ∧ ∀ (i : Nat) (v : Int), l[i]? = some v → i < m → h c i = v
theorem ByT_eq {h h' : Hp} {o c : Int} {m : Nat} {l : List Int} (e1 : h' o 1 = h o 1) (e2 : ∀ i, h' c i = h c i) (T : ByT h o c m l) : ByT h' o c m l :=
  ⟨by rw [e1]; exact T.1, fun i v hi hm => by rw [e2]; exact T.2 i v hi hm⟩
theorem By_add_ok {h : Hp} {o c : Int} {m : Nat} {l : List Int} {v : Int} (ko : kK o = 0) (kc : kK c = 20) (lc : kL c = (m : Int)) (hm : m < 100000) (ho : h o 0 = c) (hoc : o ≠ c) (T : ByT h o c m l) (v0 : 0 ≤ v) (v1 : v < 128) : ∃ h', By_add o v h = some h' ∧ ByT h' o c m (l ++ [v]) ∧ ∀ a i, (a ≠ o ∨ i ≠ 1) → a ≠ c → h' a i = h a i := by
  have e8 : w8 (w8 v) = v := by unfold w8; omega
  have la : (l ++ [v]).length = l.length + 1 := by rw [List.length_append]; rfl
  unfold By_add
  rw [if_pos ko, T.1, if_neg (by omega), ho, if_pos kc, lc]
  by_cases hf : m ≤ l.length
  · rw [if_pos (by omega)]
    refine ⟨h, rfl, ⟨?_, ?_⟩, fun _ _ _ _ => rfl⟩
    · rw [T.1, la]; omega
    · intro i x hi him
      rw [List.getElem?_append_left (by omega)] at hi
      exact T.2 i x hi him
  · rw [if_neg (by omega), if_pos ⟨kc, by omega, by omega⟩]
    simp only
    rw [e8, hput_ne1 hoc, T.1]
    have en : ((min l.length m : Nat) : Int) = (l.length : Int) := by omega
    rw [en, show w32 ((l.length : Int) + 1) = l.length + 1 by unfold w32; omega]
    refine ⟨_, rfl, ⟨?_, ?_⟩, ?_⟩
    · rw [hput_eq, la]; omega
    · intro i x hi him
      rw [hput_ne1 (Ne.symm hoc)]
      by_cases hl : i < l.length
      · rw [List.getElem?_append_left hl] at hi
        rw [hput_ne2 (by omega)]
        exact T.2 i x hi him
      · rw [List.getElem?_append_right (by omega)] at hi
        have : i - l.length = 0 := by
          by_cases hz : i - l.length = 0
          · exact hz
          · have : ([v] : List Int)[i - l.length]? = none := List.getElem?_eq_none (by show 1 ≤ _; omega)
            rw [this] at hi
            exact absurd hi (by simp)
        rw [this] at hi
        have hx : v = x := by simpa using hi
        rw [show (i : Int) = l.length by omega, hput_eq]
        exact hx
    · intro a i h1 h2
      rcases h1 with z | z
      · rw [hput_ne1 z, hput_ne1 h2]
      · rw [hput_ne2 z, hput_ne1 h2]
