/-! the class: unfolding, all of it -/
def ufC (w P x : Int) (f : Hp) : Option ((Int × Hp) ⊕ (Hp)) := if kK (f w 9) = 0 then ob (By_add (f w 9) 41 f) (fun r90 => Wy_unfold_j129 w P x (hput r90 w 15 (w32 ((r90 w 15) - 1)))) else none
def ufP (w P x : Int) (f : Hp) : Option ((Int × Hp) ⊕ (Hp)) := if kK (f w 13) = 21 ∧ (0 : Int) ≤ f w 14 ∧ f w 14 < kL (f w 13) then if f (f w 13) (f w 14) = (-1) then ufC w P x f else ob (Wy_unfoldNode w P (w32 (Int.tdiv (i_shr (f (f w 13) (f w 14)) 1) 12)) (w32 (Int.tmod (i_shr (f (f w 13) (f w 14)) 1) 12)) (i_and (f (f w 13) (f w 14)) 1) f) (fun r126 => Wy_unfold_j129 w P x r126) else none
theorem L45_eq (w P x : Int) (h : Hp) : Wy_unfold_L45 w P x h = if 4096 ≤ x then some (.inr h) else if kK w = 8 then if h w 14 ≤ 0 then some (.inr h) else ufP w P x (hput h w 14 (w32 ((h w 14) - 1))) else none := rfl
section
variable {h h' g : Hp} {w P o8 n : Int} {G : Gm} {row : Int → Int} {st : St} {M : Int}
theorem unfoldNode_turn (E : UEnv h w P G o8 n row st) (hM : M ≤ 48) {txt : List Int} {ls : List (Int × Int)} {dm br : Nat} {r : List Uk} {d : Dv} {s half node : Int} {cx : Cx} (U : USt h w G st txt ls dm br (nC r) (r.map (rawU G))) (uo : Uok G st M (some (d, s, half, node, cx))) (ok : ∀ u ∈ r, Uok G st M u) (hdm : nC r ≤ dm) (hW : rW G st (some (d, s, half, node, cx) :: r) + ls.length ≤ 576) (hB : br < 90000) (hMs : M ≤ (st.length : Int)) :
    ∃ h', Wy_unfoldNode w P s (off G node) half h = some h' ∧ Turn h h' w G st M (some (d, s, half, node, cx) :: r) txt ls dm br := by
  obtain ⟨hh, A, ⟨s0, s1⟩, ⟨n0, n1⟩, ⟨et, su⟩, cxo⟩ := uo
  have B := E.2.2.2.1
  have W := bx_W B
  have R := bx_R B
  have nn := wf_nn W
  have nt := wf_nt W
  have ht := wf_tr W n0 n1
  have rl := rel_in W n0 n1
  have o0 : 0 ≤ off G node ∧ off G node < 12 := by unfold off; omega
  have st48 := E.2.2.2.2.2
  obtain ⟨k0, k1, k2, k3, k4, k5⟩ := WyO_k E.1
  obtain ⟨k6, -⟩ := WyO_k2 E.1
  obtain ⟨p0, p1, p2, p3, p4, p5, p6, p7, -⟩ := GrO_k R.1
  have e4 : h w 4 = w + 1 := E.2.1.1
  have e5 : h w 5 = w + 2 := E.2.1.2.1
  have e6' : h w 6 = w + 3 := E.2.1.2.2.1
  have e8' : h w 8 = w + 5 := E.2.1.2.2.2.2
  have T := E.2.2.2.2.1
  have tb := T.2.1 s s0 s1
  have tr1 : h (w + 1) s = tr G node := by rw [tb.1]; exact et
  have e6 : h P 6 = P + 1 := R.2.1.1
  have e8 : h P 8 = P + 3 := R.2.1.2.2.1
  have eft : h (P + 1) (tr G node) = ft G (tr G node) := R.2.2.2.2.1 _ ht.1 (by omega)
  have eat : w32 (ft G (tr G node) + off G node) = node := by unfold off w32; omega
  have ekd : h (P + 3) node = kd G node := (R.2.2.2.2.2.1 node n0 n1).2.1
  have ew : w32 (w32 (s * 12) + off G node) = 12 * s + off G node := by
    have : w32 (s * 12) = 12 * s := by unfold w32; omega
    rw [this]; unfold w32; omega
  have ein : h (w + 5) (12 * s + off G node) = sPut st s (off G node) := T.2.2 s _ s0 (by omega) o0.1 o0.2
  have rl' := rW_len r ok
  have hlm : (r.map (rawU G)).length = r.length := List.length_map _
  have hw : uW G st d s node (cxF (uW G st) 0 cx) + rW G st r + ls.length ≤ 576 := hW
  have kd0 := wf_kd W n0 n1
  unfold Wy_unfoldNode
  rw [if_pos p0, if_pos k0, e4, if_pos ⟨k1.1, s0, by rw [k1.2]; omega⟩, tr1, e6, if_pos ⟨p1.1, ht.1, by rw [p1.2]; omega⟩, e8, eft, eat, if_pos ⟨p3.1, n0, by rw [p3.2]; omega⟩, e8', ew, if_pos ⟨k5.1, by omega, by rw [k5.2]; omega⟩, ekd, ein]
  -- a node into which nothing is put, or its lower half
  have branch : kd G node = 0 → ∀ d', At G st 0 M d' s 0 node → (uW G st d' s node (cxF (uW G st) 0 cx) + rW G st r + ls.length ≤ 576) → ∃ h', Wy_unfoldNode_j86 w P s (off G node) (kd G node) h = some h' ∧ Turn h h' w G st M (some (d', s, half, node, cx) :: r) txt ls dm br := by
    intro hk0 d' A' hw'
    obtain ⟨g, x, Tn⟩ := unfoldBranch_turn (half := half) E U A' s0 s1 n0 n1 et su cxo ok hdm hw' hB hk0
    unfold Wy_unfoldNode_j86
    rw [if_pos hk0, if_pos k0, x, ob_some]
    exact ⟨g, rfl, Tn⟩
  -- another step is put there
  have other : ∀ (t : Int) (o' : Dv) (s' : Int) (cx' : Cx), (0 ≤ s' ∧ s' < M) → (0 ≤ t ∧ t < nT G) → At G st 0 M o' s' 1 (ft G t) → (sEnt st s').1 = t → CxOK G st M s' cx' → ∃ g, Wy_push w s' 0 1 h = some g ∧ ∃ us : List Uk, us = some (o', s', 1, ft G t, cx') :: r ∧ FU w h g ∧ USt g w G st txt ls dm br (nC us) (us.map (rawU G)) ∧ (∀ u ∈ us, Uok G st M u) := by
    intro t o' s' cx' ⟨a0, a1⟩ ⟨t0, t1⟩ A' en' co
    have hr := root_in W t0 t1
    obtain ⟨g, x, Ug, Fg⟩ := wpush_ok E U (by omega) (s := s') (m := 0) (half := 1) a0 (by omega) (by decide) (by decide) (Or.inr rfl)
    refine ⟨g, x, _, rfl, Fg, ?_, ?_⟩
    · have z : rawU G (some (o', s', 1, ft G t, cx')) = 2 * (12 * s' + 0) + 1 := by
        show 2 * (12 * s' + off G (ft G t)) + 1 = _
        rw [show off G (ft G t) = 0 by unfold off; rw [hr.2.2]; omega]
      show USt g w G st txt ls dm br (nC r) (rawU G (some (o', s', 1, ft G t, cx')) :: r.map (rawU G))
      rw [z]
      exact Ug
    · intro u hu
      rcases List.mem_cons.mp hu with e | hu
      · subst e
        exact ⟨Or.inr rfl, A', ⟨a0, by omega⟩, ⟨hr.1, hr.2.1⟩, ⟨by rw [en', hr.2.2], fun z => by rw [hr.2.2]; exact z⟩, co⟩
      · exact ok u hu
  rcases hh with hh | hh
  · subst hh
    have hk0 : kd G node = 0 := by
      cases d with
      | zero => exact absurd A.1 (by decide)
      | var _ => exact False.elim A
      | neg _ => exact absurd A.1 (by decide)
      | sub _ _ => exact absurd A.1 (by decide)
      | intMul t d' => exact absurd (A.2.1 (by decide)).1 (by decide)
      | natMul _ _ => exact A.2.1
      | add _ _ => exact A.2.1
    rw [if_neg (by omega), if_neg (show ¬ (0 : Int) = 1 by decide)]
    obtain ⟨g, x, Tn⟩ := branch hk0 d A hw
    by_cases hp : sPut st s (off G node) = -1
    · rw [if_pos hp]; exact ⟨g, x, Tn⟩
    · rw [if_neg hp]; exact ⟨g, x, Tn⟩
  · subst hh
    cases d with
    | var _ => exact False.elim A
    | natMul _ _ => exact absurd A.1 (by decide)
    | add _ _ => exact absurd A.1 (by decide)
    | neg d' =>
      obtain ⟨-, hk0, hp, A'⟩ := A
      rw [if_neg (by omega), if_pos hp]
      exact branch hk0 d' A' hw
    | zero =>
      obtain ⟨-, hkd, hp⟩ := A
      by_cases k3' : kd G node = 3
      · -- the foot
        rw [if_pos k3', e5, if_pos ⟨k2.1, s0, by rw [k2.2]; omega⟩, e6', if_pos ⟨k3.1, s0, by rw [k3.2]; omega⟩, tb.2.1, tb.2.2]
        have spn : sp G (ft G (sEnt st s).1) = 1 := by
          have s1' := (wf_sp W n0 n1).2.1 k3'
          rw [et]
          exact su s1'
        cases cx with
        | nil =>
          have : sp G (ft G (sEnt st s).1) = 0 := cxo
          omega
        | cons q cx' =>
          obtain ⟨d', s', node'⟩ := q
          rcases cxo with z | ⟨q1, ⟨q2, q3⟩, ⟨q4, q5⟩, q6, q7, q8⟩
          · omega
          have e21 : (sEnt st s).2.1 = s' := congrArg Prod.fst q1
          have e22 : (sEnt st s).2.2 = off G node' := congrArg Prod.snd q1
          have rl2 := rel_in W q4 q5
          have o2 : 0 ≤ off G node' ∧ off G node' < 12 := by unfold off; omega
          obtain ⟨g, x, Ug, Fg⟩ := wpush_ok E U (by omega) (s := s') (m := off G node') (half := 0) q2 (by omega) o2.1 o2.2 (Or.inl rfl)
          rw [e21, e22, x, ob_some]
          have k1n : ¬ kd G node = 1 := by omega
          have eu : ∀ {α : Type} (lt : Int → Int → α) (em : α) (fo im : α → α) (b1 : Int → α → α) (b2 : Int → α → α → α) (F : α), uf G st lt em fo im b1 b2 .zero s node F = fo F := by
            intro α lt em fo im b1 b2 F
            show (if kd G node = 1 then lt s node else if kd G node = 3 then fo F else em) = fo F
            rw [if_neg k1n, if_pos k3']
          refine ⟨g, rfl, some (d', s', 0, node', cx') :: r, txt, ls, dm, br, Fg, Ug, ?_, hdm, ?_, ?_, ?_, ?_, ?_, ?_, ?_⟩
          · intro u hu
            rcases List.mem_cons.mp hu with e | hu
            · subst e
              exact ⟨Or.inl rfl, q7, ⟨q2, q3⟩, ⟨q4, q5⟩, q6, q8⟩
            · exact ok u hu
          · show rT G st r _ = rT G st r _
            unfold uT
            rw [eu]
            rfl
          · show rL G st r _ = rL G st r _
            unfold uY
            rw [eu]
            rfl
          · show rB G st r _ = rB G st r _
            unfold uB
            rw [eu]
            rfl
          · show rD G st r _ = rD G st r _
            unfold uD
            rw [eu]
            rfl
          · show uW G st d' s' node' (cxF (uW G st) 0 cx') + rW G st r + ls.length ≤ uW G st .zero s node (uW G st d' s' node' (cxF (uW G st) 0 cx')) + rW G st r + ls.length
            have : uW G st .zero s node (uW G st d' s' node' (cxF (uW G st) 0 cx')) = uW G st d' s' node' (cxF (uW G st) 0 cx') + 1 := eu _ _ _ _ _ _ _
            omega
          · show uC G st d' s' node' (cxF (uC G st) 0 cx') + rC G st r + 1 ≤ uC G st .zero s node (uC G st d' s' node' (cxF (uC G st) 0 cx')) + rC G st r
            have : uC G st .zero s node (uC G st d' s' node' (cxF (uC G st) 0 cx')) = uC G st d' s' node' (cxF (uC G st) 0 cx') + 1 := eu _ _ _ _ _ _ _
            omega
          · show uC G st d' s' node' (cxF (uC G st) 0 cx') + rC G st r + br ≤ uC G st .zero s node (uC G st d' s' node' (cxF (uC G st) 0 cx')) + rC G st r + br
            have : uC G st .zero s node (uC G st d' s' node' (cxF (uC G st) 0 cx')) = uC G st d' s' node' (cxF (uC G st) 0 cx') + 1 := eu _ _ _ _ _ _ _
            omega
      · rw [if_neg k3', if_pos hp]
        unfold Wy_unfoldNode_j86
        rw [if_neg (by omega)]
        by_cases k1' : kd G node = 1
        · have eu : ∀ {α : Type} (lt : Int → Int → α) (em : α) (fo im : α → α) (b1 : Int → α → α) (b2 : Int → α → α → α) (F : α), uf G st lt em fo im b1 b2 .zero s node F = lt s node := by
            intro α lt em fo im b1 b2 F
            show (if kd G node = 1 then lt s node else if kd G node = 3 then fo F else em) = _
            rw [if_pos k1']
          have w1 : uW G st .zero s node (cxF (uW G st) 0 cx) = 1 := eu _ _ _ _ _ _ _
          have c1' : uC G st .zero s node (cxF (uC G st) 0 cx) = 1 := eu _ _ _ _ _ _ _
          obtain ⟨g, x, Ug, Fg⟩ := growLetter_ok E U s0 s1 et n0 n1 k1' (by omega)
          rw [if_pos k1', if_pos k0, x, ob_some]
          refine ⟨g, rfl, r, emit txt [97 + lb G node], ls ++ [(s, off G node)], dm, br, Fg, Ug, ok, hdm, ?_, ?_, ?_, ?_, ?_, ?_, ?_⟩
          · show rT G st r _ = rT G st r _
            unfold uT
            rw [eu]
          · show rL G st r _ = rL G st r _
            unfold uY
            rw [eu]
          · show rB G st r _ = rB G st r _
            unfold uB
            rw [eu]
            rfl
          · show rD G st r _ = rD G st r _
            unfold uD
            rw [eu]
            congr 1
            omega
          · rw [List.length_append]
            show rW G st r + (ls.length + 1) ≤ uW G st .zero s node (cxF (uW G st) 0 cx) + rW G st r + ls.length
            omega
          · show rC G st r + 1 ≤ uC G st .zero s node (cxF (uC G st) 0 cx) + rC G st r
            omega
          · show rC G st r + br ≤ uC G st .zero s node (cxF (uC G st) 0 cx) + rC G st r + br
            omega
        · have k2' : kd G node = 2 := by omega
          have eu : ∀ {α : Type} (lt : Int → Int → α) (em : α) (fo im : α → α) (b1 : Int → α → α) (b2 : Int → α → α → α) (F : α), uf G st lt em fo im b1 b2 .zero s node F = em := by
            intro α lt em fo im b1 b2 F
            show (if kd G node = 1 then lt s node else if kd G node = 3 then fo F else em) = _
            rw [if_neg k1', if_neg k3']
          have w1 : uW G st .zero s node (cxF (uW G st) 0 cx) = 1 := eu _ _ _ _ _ _ _
          have c1' : uC G st .zero s node (cxF (uC G st) 0 cx) = 1 := eu _ _ _ _ _ _ _
          obtain ⟨h1, h2, x1, y9, x2, U2, F2⟩ := sign_ok E U (v := 46) (by decide) (by decide)
          rw [if_neg k1', if_pos k2', if_pos k0, x1, ob_some, y9, if_pos k6, x2, ob_some]
          refine ⟨h2, rfl, r, emit txt [46], ls, dm, br, F2, U2, ok, hdm, ?_, ?_, ?_, ?_, ?_, ?_, ?_⟩
          · show rT G st r _ = rT G st r _
            unfold uT
            rw [eu]
          · show rL G st r _ = rL G st r _
            unfold uY
            rw [eu, List.append_nil]
          · show rB G st r _ = rB G st r _
            unfold uB
            rw [eu]
            rfl
          · show rD G st r _ = rD G st r _
            unfold uD
            rw [eu]
            congr 1
            omega
          · show rW G st r + ls.length ≤ uW G st .zero s node (cxF (uW G st) 0 cx) + rW G st r + ls.length
            omega
          · show rC G st r + 1 ≤ uC G st .zero s node (cxF (uC G st) 0 cx) + rC G st r
            omega
          · show rC G st r + br ≤ uC G st .zero s node (cxF (uC G st) 0 cx) + rC G st r + br
            omega
    | intMul t d' =>
      obtain ⟨⟨t0, t1⟩, h4, s', ⟨a0, a1⟩, pu, ent, A'⟩ := A
      have h4' := h4 (by decide)
      have co : CxOK G st M s' cx := by
        have z : sp G (ft G (sEnt st s').1) = 0 := by rw [ent]; exact h4'.2.2
        cases cx with
        | nil => exact z
        | cons q cx' => exact Or.inl z
      obtain ⟨g, x, us, hus, Fg, Ug, oku⟩ := other t d' s' cx ⟨a0, a1⟩ ⟨t0, t1⟩ A' (by rw [ent]) co
      rw [if_neg (by omega), pu, if_neg (by omega), if_pos rfl, x, ob_some]
      subst hus
      have eu : ∀ {α : Type} (lt : Int → Int → α) (em : α) (fo im : α → α) (b1 : Int → α → α) (b2 : Int → α → α → α) (F : α), uf G st lt em fo im b1 b2 (.intMul t d') s node F = im (uf G st lt em fo im b1 b2 d' s' (ft G t) F) := by
        intro α lt em fo im b1 b2 F
        show im (uf G st lt em fo im b1 b2 d' (sPut st s (off G node)) (ft G t) F) = _
        rw [pu]
      refine ⟨g, rfl, _, txt, ls, dm, br, Fg, Ug, oku, hdm, ?_, ?_, ?_, ?_, ?_, ?_, ?_⟩
      · show rT G st r (emit txt (uT G st d' s' (ft G t) (cxF (uT G st) [] cx))) = rT G st r (emit txt (uT G st (.intMul t d') s node (cxF (uT G st) [] cx)))
        rw [show uT G st (.intMul t d') s node (cxF (uT G st) [] cx) = uT G st d' s' (ft G t) (cxF (uT G st) [] cx) from eu _ _ _ _ _ _ _]
      · show rL G st r (ls ++ uY G st d' s' (ft G t) (cxF (uY G st) [] cx)) = rL G st r (ls ++ uY G st (.intMul t d') s node (cxF (uY G st) [] cx))
        rw [show uY G st (.intMul t d') s node (cxF (uY G st) [] cx) = uY G st d' s' (ft G t) (cxF (uY G st) [] cx) from eu _ _ _ _ _ _ _]
      · show rB G st r (br + uB G st d' s' (ft G t) (cxF (uB G st) 0 cx)) = rB G st r (br + uB G st (.intMul t d') s node (cxF (uB G st) 0 cx))
        rw [show uB G st (.intMul t d') s node (cxF (uB G st) 0 cx) = uB G st d' s' (ft G t) (cxF (uB G st) 0 cx) from eu _ _ _ _ _ _ _]
      · show rD G st r (max dm (nC r + uD G st d' s' (ft G t) (cxF (uD G st) 0 cx))) = rD G st r (max dm (nC r + uD G st (.intMul t d') s node (cxF (uD G st) 0 cx)))
        rw [show uD G st (.intMul t d') s node (cxF (uD G st) 0 cx) = uD G st d' s' (ft G t) (cxF (uD G st) 0 cx) from eu _ _ _ _ _ _ _]
      · show uW G st d' s' (ft G t) (cxF (uW G st) 0 cx) + rW G st r + ls.length ≤ uW G st (.intMul t d') s node (cxF (uW G st) 0 cx) + rW G st r + ls.length
        rw [show uW G st (.intMul t d') s node (cxF (uW G st) 0 cx) = uW G st d' s' (ft G t) (cxF (uW G st) 0 cx) from eu _ _ _ _ _ _ _]
        exact Nat.le_refl _
      · show uC G st d' s' (ft G t) (cxF (uC G st) 0 cx) + rC G st r + 1 ≤ uC G st (.intMul t d') s node (cxF (uC G st) 0 cx) + rC G st r
        rw [show uC G st (.intMul t d') s node (cxF (uC G st) 0 cx) = uC G st d' s' (ft G t) (cxF (uC G st) 0 cx) + 1 from eu _ _ _ _ _ _ _]
        omega
      · show uC G st d' s' (ft G t) (cxF (uC G st) 0 cx) + rC G st r + br ≤ uC G st (.intMul t d') s node (cxF (uC G st) 0 cx) + rC G st r + br
        rw [show uC G st (.intMul t d') s node (cxF (uC G st) 0 cx) = uC G st d' s' (ft G t) (cxF (uC G st) 0 cx) + 1 from eu _ _ _ _ _ _ _]
        omega
    | sub x' d' =>
      obtain ⟨-, hk0, Ax, Ad⟩ := A
      obtain ⟨t, o', ex⟩ : ∃ t o', x' = .intMul t o' := by
        cases x' with
        | zero => exact absurd Ax.1 (by decide)
        | var _ => exact False.elim Ax
        | intMul t d' => exact ⟨t, d', rfl⟩
        | neg _ => exact absurd Ax.1 (by decide)
        | sub _ _ => exact absurd Ax.1 (by decide)
        | natMul _ _ => exact absurd Ax.1 (by decide)
        | add _ _ => exact absurd Ax.1 (by decide)
      subst ex
      obtain ⟨⟨t0, t1⟩, h4, s', ⟨a0, a1⟩, pu, ent, A'⟩ := Ax
      have co : CxOK G st M s' ((d', s, node) :: cx) := Or.inr ⟨by rw [ent], ⟨s0, s1⟩, ⟨n0, n1⟩, ⟨et, su⟩, Ad, cxo⟩
      obtain ⟨g, x, us, hus, Fg, Ug, oku⟩ := other t o' s' ((d', s, node) :: cx) ⟨a0, a1⟩ ⟨t0, t1⟩ A' (by rw [ent]) co
      rw [if_neg (by omega), pu, if_neg (by omega), if_pos rfl, x, ob_some]
      subst hus
      have eu : ∀ {α : Type} (lt : Int → Int → α) (em : α) (fo im : α → α) (b1 : Int → α → α) (b2 : Int → α → α → α) (F : α), uf G st lt em fo im b1 b2 (.sub (.intMul t o') d') s node F = im (uf G st lt em fo im b1 b2 o' s' (ft G t) (uf G st lt em fo im b1 b2 d' s node F)) := by
        intro α lt em fo im b1 b2 F
        show im (uf G st lt em fo im b1 b2 o' (sPut st s (off G node)) (ft G t) (uf G st lt em fo im b1 b2 d' s node F)) = _
        rw [pu]
      refine ⟨g, rfl, _, txt, ls, dm, br, Fg, Ug, oku, hdm, ?_, ?_, ?_, ?_, ?_, ?_, ?_⟩
      · show rT G st r (emit txt (uT G st o' s' (ft G t) (uT G st d' s node (cxF (uT G st) [] cx)))) = rT G st r (emit txt (uT G st (.sub (.intMul t o') d') s node (cxF (uT G st) [] cx)))
        rw [show uT G st (.sub (.intMul t o') d') s node (cxF (uT G st) [] cx) = uT G st o' s' (ft G t) (uT G st d' s node (cxF (uT G st) [] cx)) from eu _ _ _ _ _ _ _]
      · show rL G st r (ls ++ uY G st o' s' (ft G t) (uY G st d' s node (cxF (uY G st) [] cx))) = rL G st r (ls ++ uY G st (.sub (.intMul t o') d') s node (cxF (uY G st) [] cx))
        rw [show uY G st (.sub (.intMul t o') d') s node (cxF (uY G st) [] cx) = uY G st o' s' (ft G t) (uY G st d' s node (cxF (uY G st) [] cx)) from eu _ _ _ _ _ _ _]
      · show rB G st r (br + uB G st o' s' (ft G t) (uB G st d' s node (cxF (uB G st) 0 cx))) = rB G st r (br + uB G st (.sub (.intMul t o') d') s node (cxF (uB G st) 0 cx))
        rw [show uB G st (.sub (.intMul t o') d') s node (cxF (uB G st) 0 cx) = uB G st o' s' (ft G t) (uB G st d' s node (cxF (uB G st) 0 cx)) from eu _ _ _ _ _ _ _]
      · show rD G st r (max dm (nC r + uD G st o' s' (ft G t) (uD G st d' s node (cxF (uD G st) 0 cx)))) = rD G st r (max dm (nC r + uD G st (.sub (.intMul t o') d') s node (cxF (uD G st) 0 cx)))
        rw [show uD G st (.sub (.intMul t o') d') s node (cxF (uD G st) 0 cx) = uD G st o' s' (ft G t) (uD G st d' s node (cxF (uD G st) 0 cx)) from eu _ _ _ _ _ _ _]
      · show uW G st o' s' (ft G t) (uW G st d' s node (cxF (uW G st) 0 cx)) + rW G st r + ls.length ≤ uW G st (.sub (.intMul t o') d') s node (cxF (uW G st) 0 cx) + rW G st r + ls.length
        rw [show uW G st (.sub (.intMul t o') d') s node (cxF (uW G st) 0 cx) = uW G st o' s' (ft G t) (uW G st d' s node (cxF (uW G st) 0 cx)) from eu _ _ _ _ _ _ _]
        exact Nat.le_refl _
      · show uC G st o' s' (ft G t) (uC G st d' s node (cxF (uC G st) 0 cx)) + rC G st r + 1 ≤ uC G st (.sub (.intMul t o') d') s node (cxF (uC G st) 0 cx) + rC G st r
        rw [show uC G st (.sub (.intMul t o') d') s node (cxF (uC G st) 0 cx) = uC G st o' s' (ft G t) (uC G st d' s node (cxF (uC G st) 0 cx)) + 1 from eu _ _ _ _ _ _ _]
        omega
      · show uC G st o' s' (ft G t) (uC G st d' s node (cxF (uC G st) 0 cx)) + rC G st r + br ≤ uC G st (.sub (.intMul t o') d') s node (cxF (uC G st) 0 cx) + rC G st r + br
        rw [show uC G st (.sub (.intMul t o') d') s node (cxF (uC G st) 0 cx) = uC G st o' s' (ft G t) (uC G st d' s node (cxF (uC G st) 0 cx)) + 1 from eu _ _ _ _ _ _ _]
        omega
end
