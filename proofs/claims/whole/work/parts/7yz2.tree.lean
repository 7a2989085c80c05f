/-! test: the tree of the steps told -/
section
variable {G : Gm} {ps st : St} {ou : Int → Bool}
theorem Bld_ent : ∀ {st : St}, Bld G ou ps st → ∀ k : Nat, k < st.length → sEnt st (k : Int) = en0 ps k ∧ ∃ r, r.length = k ∧ okN G ou ps r ∧ Bld G ou ps r
  | [], _, k, hk => absurd hk (Nat.not_lt_zero k)
  | x :: r, B, k, hk => by
    have hl : (x :: r).length = r.length + 1 := rfl
    have ee : sEnt (x :: r) (k : Int) = if (k : Int) = r.length then x else sEnt r (k : Int) := rfl
    by_cases e : k = r.length
    · rw [ee, if_pos (by omega), B.1, e]
      exact ⟨rfl, r, rfl, B.2.2.1, B.2.2.2⟩
    · rw [ee, if_neg (by omega)]
      exact Bld_ent B.2.2.2 k (by omega)
theorem tree_ex (I : GIn G) (B : Bld G ou ps st) (l0 : 0 < st.length) (k4 : ∀ s, 0 ≤ s → s < (st.length : Int) → ¬ lkQ G st 4 0 s) : (0 ≤ (sEnt st 0).1 ∧ (sEnt st 0).1 < nT G) ∧ sp G (ft G (sEnt st 0).1) = 0 ∧ ∃ d, At G st 0 st.length d 0 1 (ft G (sEnt st 0).1) ∧ dst d + 1 ≤ st.length := by
  have W := I.1
  obtain ⟨en, E⟩ := I.2.2
  obtain ⟨F, TS⟩ := Bld_facts W B
  have t0 := (TS.2 0 (Int.le_refl 0) (by omega)).2
  have r := root_in W t0.1 t0.2
  have sw := wf_step W t0.1 t0.2
  have s0 : sp G (ft G (sEnt st 0).1) = 0 := by
    obtain ⟨e, q, hq, ok, -⟩ := Bld_ent B 0 l0
    have e' : (sEnt st 0).1 = (sEnt ps 0).1 := by
      have : sEnt st 0 = en0 ps 0 := e
      rw [this]
      exact en0_tree 0
    have eq0 : (sEnt ps ((q.length : Nat) : Int)).1 = (sEnt ps 0).1 := by rw [hq]; rfl
    rcases ok.2.2 with z | z
    · rw [e', ← eq0]; exact z.2.1
    · exact absurd hq z.1
  have O : Old st := by
    intro x x0 x1
    obtain ⟨k, rfl⟩ : ∃ k : Nat, x = (k : Int) := ⟨x.toNat, by omega⟩
    obtain ⟨e, q, hq, ok, bq⟩ := Bld_ent B k (by omega)
    have io := okS_into W (Bld_facts W bq).2 ok
    rw [hq] at io
    rw [e]
    omega
  have N : ∀ y : Int, 1 ≤ y → y < (st.length : Int) → 0 ≤ (sEnt st y).2.1 := by
    intro y y1 y2
    obtain ⟨k, rfl⟩ : ∃ k : Nat, y = (k : Int) := ⟨y.toNat, by omega⟩
    obtain ⟨e, q, hq, ok, bq⟩ := Bld_ent B k (by omega)
    rw [e]
    unfold en0
    rw [if_neg (by omega)]
    rcases ok.2.2 with z | z
    · omega
    · have := z.2.1.1
      rw [hq] at this
      exact this
  obtain ⟨d, A⟩ := ex_At W TS (Bld_put B) k4 (100 * st.length + 100) 0 1 (ft G (sEnt st 0).1) (Or.inr rfl) (Int.le_refl 0) (by omega) r.1 r.2.1 r.2.2 (fun z => absurd z (by decide)) (by rw [r.2.2]; omega)
  exact ⟨t0, s0, d, A, dst_le W E O N l0 r.1 r.2.1 A⟩
/-- the letters told are those of the tree -/
theorem uTl_eq (W : WF G) {L M : Int} : ∀ (d : Dv) (s half node : Int) (F : List (Int × Int)), 0 ≤ node → node < nN G → tr G node = (sEnt st s).1 → At G st L M d s half node → uTl G st d s node (F.map (fun e => 97 + lbl G st e)) = (uY G st d s node F).map (fun e => 97 + lbl G st e)
  | .zero, s, half, node, F, n0, n1, et, A => by
    show (if kd G node = 1 then [97 + lb G node] else if kd G node = 3 then id (F.map (fun e => 97 + lbl G st e)) else []) = (if kd G node = 1 then [(s, off G node)] else if kd G node = 3 then id F else []).map (fun e => 97 + lbl G st e)
    by_cases k1 : kd G node = 1
    · rw [if_pos k1, if_pos k1]
      show [97 + lb G node] = [97 + lb G (ft G (sEnt st s).1 + off G node)]
      rw [show ft G (sEnt st s).1 + off G node = node by unfold off; rw [et]; omega]
    · rw [if_neg k1, if_neg k1]
      by_cases k3 : kd G node = 3
      · rw [if_pos k3, if_pos k3]; rfl
      · rw [if_neg k3, if_neg k3]; rfl
  | .var _, s, half, node, F, n0, n1, et, A => False.elim A
  | .neg d, s, half, node, F, n0, n1, et, A => uTl_eq W d s 0 node F n0 n1 et A.2.2.2
  | .intMul t d, s, half, node, F, n0, n1, et, A => by
    obtain ⟨⟨t0, t1⟩, hh, s', -, e1, e2, A'⟩ := A
    have r := root_in W t0 t1
    show uTl G st d (sPut st s (off G node)) (ft G t) (F.map (fun e => 97 + lbl G st e)) = (uY G st d (sPut st s (off G node)) (ft G t) F).map (fun e => 97 + lbl G st e)
    rw [e1]
    exact uTl_eq W d s' 1 (ft G t) F r.1 r.2.1 (by rw [r.2.2, e2]) A'
  | .natMul _ d, s, half, node, F, n0, n1, et, A => by
    have c := ch_in W n0 n1 A.2.1
    exact uTl_eq W d s 1 (c1 G node) F c.1.2.1 c.1.2.2.1 (by rw [c.1.2.2.2]; exact et) A.2.2.2
  | .add x y, s, half, node, F, n0, n1, et, A => by
    have c := ch_in W n0 n1 A.2.1
    have c' := c.2 A.2.2.1
    show uTl G st x s (c1 G node) (F.map (fun e => 97 + lbl G st e)) ++ uTl G st y s (c2 G node) (F.map (fun e => 97 + lbl G st e)) = (uY G st x s (c1 G node) F ++ uY G st y s (c2 G node) F).map (fun e => 97 + lbl G st e)
    rw [List.map_append, uTl_eq W x s 1 (c1 G node) F c.1.2.1 c.1.2.2.1 (by rw [c.1.2.2.2]; exact et) A.2.2.2.1, uTl_eq W y s 1 (c2 G node) F c'.2.1 c'.2.2.1 (by rw [c'.2.2.2]; exact et) A.2.2.2.2]
  | .sub x d, s, half, node, F, n0, n1, et, A => by
    show uTl G st x s node (uTl G st d s node (F.map (fun e => 97 + lbl G st e))) = (uY G st x s node (uY G st d s node F)).map (fun e => 97 + lbl G st e)
    rw [uTl_eq W d s 0 node F n0 n1 et A.2.2.2]
    exact uTl_eq W x s 2 node _ n0 n1 et A.2.2.1
/-- each letter is one -/
theorem uY_in (W : WF G) {L M : Int} : ∀ (d : Dv) (s half node : Int) (F : List (Int × Int)), 0 ≤ node → node < nN G → tr G node = (sEnt st s).1 → At G st L M d s half node → (∀ e ∈ F, 0 ≤ lbl G st e ∧ lbl G st e < 26) → ∀ e ∈ uY G st d s node F, 0 ≤ lbl G st e ∧ lbl G st e < 26
  | .zero, s, half, node, F, n0, n1, et, A, hF => by
    show ∀ e ∈ (if kd G node = 1 then [(s, off G node)] else if kd G node = 3 then id F else []), _
    by_cases k1 : kd G node = 1
    · rw [if_pos k1]
      intro e he
      rw [List.mem_singleton.mp he]
      have := (wf_lb W n0 n1).1 (by omega)
      show 0 ≤ lb G (ft G (sEnt st s).1 + off G node) ∧ lb G (ft G (sEnt st s).1 + off G node) < 26
      rw [show ft G (sEnt st s).1 + off G node = node by unfold off; rw [et]; omega]
      exact this
    · rw [if_neg k1]
      by_cases k3 : kd G node = 3
      · rw [if_pos k3]; exact hF
      · rw [if_neg k3]; exact fun e he => absurd he (List.not_mem_nil)
  | .var _, s, half, node, F, n0, n1, et, A, hF => False.elim A
  | .neg d, s, half, node, F, n0, n1, et, A, hF => uY_in W d s 0 node F n0 n1 et A.2.2.2 hF
  | .intMul t d, s, half, node, F, n0, n1, et, A, hF => by
    obtain ⟨⟨t0, t1⟩, hh, s', -, e1, e2, A'⟩ := A
    have r := root_in W t0 t1
    show ∀ e ∈ uY G st d (sPut st s (off G node)) (ft G t) F, _
    rw [e1]
    exact uY_in W d s' 1 (ft G t) F r.1 r.2.1 (by rw [r.2.2, e2]) A' hF
  | .natMul _ d, s, half, node, F, n0, n1, et, A, hF => by
    have c := ch_in W n0 n1 A.2.1
    exact uY_in W d s 1 (c1 G node) F c.1.2.1 c.1.2.2.1 (by rw [c.1.2.2.2]; exact et) A.2.2.2 hF
  | .add x y, s, half, node, F, n0, n1, et, A, hF => by
    have c := ch_in W n0 n1 A.2.1
    have c' := c.2 A.2.2.1
    intro e he
    have he' : e ∈ uY G st x s (c1 G node) F ++ uY G st y s (c2 G node) F := he
    rcases List.mem_append.mp he' with z | z
    · exact uY_in W x s 1 (c1 G node) F c.1.2.1 c.1.2.2.1 (by rw [c.1.2.2.2]; exact et) A.2.2.2.1 hF e z
    · exact uY_in W y s 1 (c2 G node) F c'.2.1 c'.2.2.1 (by rw [c'.2.2.2]; exact et) A.2.2.2.2 hF e z
  | .sub x d, s, half, node, F, n0, n1, et, A, hF => by
    show ∀ e ∈ uY G st x s node (uY G st d s node F), _
    exact uY_in W x s 2 node _ n0 n1 et A.2.2.1 (uY_in W d s 0 node F n0 n1 et A.2.2.2 hF)
end
