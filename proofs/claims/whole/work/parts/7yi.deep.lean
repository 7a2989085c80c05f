/-! how deep a way's tree is: the reference -/
theorem uf_rel {α β : Type} {G : Gm} {st : St} {lt : Int → Int → α} {em : α} {fo im : α → α} {b1 : Int → α → α} {b2 : Int → α → α → α} {lt' : Int → Int → β} {em' : β} {fo' im' : β → β} {b1' : Int → β → β} {b2' : Int → β → β → β} (R : α → β → Prop) (h1 : ∀ s n, R (lt s n) (lt' s n)) (h2 : R em em') (h3 : ∀ x y, R x y → R (fo x) (fo' y)) (h4 : ∀ x y, R x y → R (im x) (im' y)) (h5 : ∀ n x y, R x y → R (b1 n x) (b1' n y)) (h6 : ∀ n x y u v, R x y → R u v → R (b2 n x u) (b2' n y v)) : ∀ (d : Dv) (s node : Int) (F : α) (F' : β), R F F' → R (uf G st lt em fo im b1 b2 d s node F) (uf G st lt' em' fo' im' b1' b2' d s node F')
  | .zero, s, node, F, F', r => by
    show R (if kd G node = 1 then lt s node else if kd G node = 3 then fo F else em) (if kd G node = 1 then lt' s node else if kd G node = 3 then fo' F' else em')
    by_cases k1 : kd G node = 1
    · rw [if_pos k1, if_pos k1]; exact h1 s node
    · rw [if_neg k1, if_neg k1]
      by_cases k3 : kd G node = 3
      · rw [if_pos k3, if_pos k3]; exact h3 _ _ r
      · rw [if_neg k3, if_neg k3]; exact h2
  | .var _, s, node, F, F', r => r
  | .neg d, s, node, F, F', r => uf_rel R h1 h2 h3 h4 h5 h6 d s node F F' r
  | .intMul t d, s, node, F, F', r => h4 _ _ (uf_rel R h1 h2 h3 h4 h5 h6 d _ _ F F' r)
  | .natMul _ d, s, node, F, F', r => h5 _ _ _ (uf_rel R h1 h2 h3 h4 h5 h6 d s _ F F' r)
  | .add x y, s, node, F, F', r => h6 _ _ _ _ _ (uf_rel R h1 h2 h3 h4 h5 h6 x s _ F F' r) (uf_rel R h1 h2 h3 h4 h5 h6 y s _ F F' r)
  | .sub x d, s, node, F, F', r => uf_rel R h1 h2 h3 h4 h5 h6 x s node _ _ (uf_rel R h1 h2 h3 h4 h5 h6 d s node F F' r)
theorem uD_uC {G : Gm} {st : St} (d : Dv) (s node : Int) (F F' : Nat) (h : F ≤ F') : uD G st d s node F ≤ uC G st d s node F' :=
  uf_rel (fun x y => x ≤ y) (fun _ _ => Nat.zero_le _) (Nat.zero_le _) (fun x y r => by show x ≤ y + 1; omega) (fun x y r => by show x ≤ y + 1; omega) (fun _ x y r => by show x + 1 ≤ y + 2; omega) (fun _ x y u v r r' => by show max x u + 1 ≤ y + v + 2; omega) d s node F F' h
theorem cD_cC {G : Gm} {st : St} : ∀ cx : Cx, cxF (uD G st) 0 cx ≤ cxF (uC G st) 0 cx
  | [] => Nat.le_refl _
  | (d, s, node) :: r => uD_uC d s node _ _ (cD_cC r)
section
variable {g : Hp} {o8 n M : Int} {G : Gm} {row : Int → Int} {st : St}
theorem M_put_ok (S : SShp g) (T : RTab g st) (hl : st.length ≤ 128) {s m : Int} (s0 : 0 ≤ s) (s1 : s < (st.length : Int)) (m0 : 0 ≤ m) (m1 : m < 12) : M_put 121 s m g = some (sPut st s m) := by
  have ew : w32 (w32 (12 * s) + m) = 12 * s + m := by
    have : w32 (12 * s) = 12 * s := by unfold w32; omega
    rw [this]; unfold w32; omega
  unfold M_put
  rw [if_pos kK_121, ss_at S (show ((53 : Int), (152 : Int)) ∈ ssL by decide), ew, if_pos ⟨kK_152, by omega, by rw [kL_152]; omega⟩, (T.2 s s0 s1).2.2.2 m m0 m1]
theorem M_own_ok (B : BM g G o8 n row) (W : WF G) {node : Int} (n0 : 0 ≤ node) (n1 : node < nN G) : M_own 121 (tr G node) node g = some (off G node) := by
  have ht := wf_tr W n0 n1
  have nt := wf_nt W
  have rl := rel_in W n0 n1
  have e : g 122 (tr G node) = ft G (tr G node) := (bm_X B).2.2.2.1 _ ht.1 (by omega)
  unfold M_own
  rw [if_neg (by omega), if_pos kK_121, ms_at (bm_S B) (show ((4 : Int), (122 : Int)) ∈ msL by decide), if_pos ⟨kK_122, ht.1, by rw [kL_122]; omega⟩, e]
  congr 1
  unfold off w32
  omega
/-- the step's node, as the reference finds it -/
theorem at_ok (B : BM g G o8 n row) (W : WF G) (S : SShp g) (T : RTab g st) (hl : st.length ≤ 128) {s node : Int} (s0 : 0 ≤ s) (s1 : s < (st.length : Int)) (n0 : 0 ≤ node) (n1 : node < nN G) (et : (sEnt st s).1 = tr G node) : g 121 49 = 148 ∧ (kK 148 = 21 ∧ (0 : Int) ≤ s ∧ s < kL 148) ∧ g 148 s = tr G node ∧ g 121 4 = 122 ∧ (kK 122 = 21 ∧ (0 : Int) ≤ tr G node ∧ tr G node < kL 122) ∧ g 122 (tr G node) = ft G (tr G node) ∧ w32 (ft G (tr G node) + off G node) = node ∧ (0 ≤ off G node ∧ off G node < 12) := by
  have ht := wf_tr W n0 n1
  have nt := wf_nt W
  have nn := wf_nn W
  have rl := rel_in W n0 n1
  refine ⟨ss_at S (by decide), ⟨kK_148, s0, by rw [kL_148]; omega⟩, by rw [(T.2 s s0 s1).1]; exact et, ms_at (bm_S B) (by decide), ⟨kK_122, ht.1, by rw [kL_122]; omega⟩, (bm_X B).2.2.2.1 _ ht.1 (by omega), by unfold off w32; omega, by unfold off; omega⟩
theorem deep_spec (B : BM g G o8 n row) (S : SShp g) (T : RTab g st) (hl : st.length ≤ 128) (hM : M ≤ (st.length : Int)) : ∀ (e : Nat), e ≤ 5000 → ∀ (d : Dv) (s half node : Int) (cx : Cx), Uok G st M (some (d, s, half, node, cx)) → (half = 1 → uC G st d s node (cxF (uC G st) 0 cx) ≤ e → M_deepAbove_G e 0 [121, s, off G node] g = some (uD G st d s node (cxF (uD G st) 0 cx) : Int)) ∧ (half = 0 → uC G st d s node (cxF (uC G st) 0 cx) ≤ e + 1 → M_deepAbove_G e 1 [121, s, off G node] g = some (uD G st d s node (cxF (uD G st) 0 cx) : Int)) := by
  have W := bm_W B
  have nn := wf_nn W
  intro e
  induction e with
  | zero =>
    intro he d s half node cx uo
    obtain ⟨hh, A, ⟨s0, s1⟩, ⟨n0, n1⟩, ⟨et, su⟩, cxo⟩ := uo
    have wp : ∀ (d : Dv) (s half node : Int) (F : Nat), At G st 0 M d s half node → uW G st d s node 0 ≤ uC G st d s node F := fun d s half node F _ => uf_rel (fun x y => x ≤ y) (fun _ _ => Nat.le_refl _) (Nat.le_refl _) (fun x y r => by show x + 1 ≤ y + 1; omega) (fun x y r => by show x ≤ y + 1; omega) (fun _ x y r => by show x + 1 ≤ y + 2; omega) (fun _ x y u v r r' => by show x + u + 1 ≤ y + v + 2; omega) d s node 0 F (Nat.zero_le _)
    refine ⟨fun h1 hC => ?_, fun h0 hC => ?_⟩
    · have := uW_pos d s half node 0 A
      have := wp d s half node (cxF (uC G st) 0 cx) A
      omega
    · subst h0
      exfalso
      cases d with
      | zero => exact absurd A.1 (by decide)
      | var _ => exact False.elim A
      | neg _ => exact absurd A.1 (by decide)
      | sub _ _ => exact absurd A.1 (by decide)
      | intMul t d' => exact absurd (A.2.1 (by decide)).1 (by decide)
      | natMul m d' =>
        have : uC G st (.natMul m d') s node (cxF (uC G st) 0 cx) = uC G st d' s (c1 G node) (cxF (uC G st) 0 cx) + 2 := rfl
        omega
      | add x y =>
        have : uC G st (.add x y) s node (cxF (uC G st) 0 cx) = uC G st x s (c1 G node) (cxF (uC G st) 0 cx) + uC G st y s (c2 G node) (cxF (uC G st) 0 cx) + 2 := rfl
        omega
  | succ e ih =>
    intro he d s half node cx uo
    have ih := ih (by omega)
    obtain ⟨hh, A, ⟨s0, s1⟩, ⟨n0, n1⟩, ⟨et, su⟩, cxo⟩ := uo
    obtain ⟨q49, y49, q148, q4, y4, q122, eat, o0⟩ := at_ok B W S T hl s0 s1 n0 n1 et
    have gx := (bm_X B).2.2.2.2.1 node n0 n1
    have q5 : g 121 5 = 123 := ms_at (bm_S B) (by decide)
    have y5 : kK 123 = 21 ∧ (0 : Int) ≤ node ∧ node < kL 123 := ⟨kK_123, n0, by rw [kL_123]; omega⟩
    refine ⟨fun h1 hC => ?_, fun h0 hC => ?_⟩
    · subst h1
      show (if 0 ≤ e then M_deepAbove_b (M_deepAbove_G e) e 121 s (off G node) g else none) = _
      rw [if_pos (Nat.zero_le _)]
      unfold M_deepAbove_b
      rw [if_pos kK_121, M_put_ok S T hl s0 s1 o0.1 o0.2, ob_some, q49, if_pos y49, q148, q4, if_pos y4, q122, eat, q5, if_pos y5, gx.1]
      cases d with
      | var _ => exact False.elim A
      | natMul _ _ => exact absurd A.1 (by decide)
      | add _ _ => exact absurd A.1 (by decide)
      | neg d' =>
        obtain ⟨-, hk0, hp, A'⟩ := A
        have r := (ih d' s 0 node cx ⟨Or.inl rfl, A', ⟨s0, s1⟩, ⟨n0, n1⟩, ⟨et, su⟩, cxo⟩).2 rfl hC
        rw [if_pos hk0, if_pos hp, r, ob_some]
        rfl
      | zero =>
        obtain ⟨-, hkd, hp⟩ := A
        rw [if_neg (by omega), if_neg (by omega)]
        by_cases k3 : kd G node = 3
        · rw [if_pos k3]
          have spn : sp G (ft G (sEnt st s).1) = 1 := by rw [et]; exact su ((wf_sp W n0 n1).2.1 k3)
          cases cx with
          | nil =>
            have : sp G (ft G (sEnt st s).1) = 0 := cxo
            omega
          | cons q cx' =>
            obtain ⟨d', s', node'⟩ := q
            rcases cxo with z | ⟨q1, ⟨q2, q3⟩, ⟨q4', q5'⟩, q6, q7, q8⟩
            · omega
            have e21 : (sEnt st s).2.1 = s' := congrArg Prod.fst q1
            have e22 : (sEnt st s).2.2 = off G node' := congrArg Prod.snd q1
            have tb := T.2 s s0 s1
            have eu : ∀ {α : Type} (lt : Int → Int → α) (em : α) (fo im : α → α) (b1 : Int → α → α) (b2 : Int → α → α → α) (F : α), uf G st lt em fo im b1 b2 .zero s node F = fo F := by
              intro α lt em fo im b1 b2 F
              show (if kd G node = 1 then lt s node else if kd G node = 3 then fo F else em) = fo F
              rw [if_neg (by omega), if_pos k3]
            have c1' : uC G st .zero s node (cxF (uC G st) 0 ((d', s', node') :: cx')) = uC G st d' s' node' (cxF (uC G st) 0 cx') + 1 := eu _ _ _ _ _ _ _
            have r := (ih d' s' 0 node' cx' ⟨Or.inl rfl, q7, ⟨q2, q3⟩, ⟨q4', q5'⟩, q6, q8⟩).2 rfl (by omega)
            rw [ss_at S (show ((50 : Int), (149 : Int)) ∈ ssL by decide), if_pos (show kK 149 = 21 ∧ (0 : Int) ≤ s ∧ s < kL 149 from ⟨by decide, s0, by rw [show kL 149 = 128 by decide]; omega⟩), ss_at S (show ((51 : Int), (150 : Int)) ∈ ssL by decide), if_pos (show kK 150 = 21 ∧ (0 : Int) ≤ s ∧ s < kL 150 from ⟨by decide, s0, by rw [show kL 150 = 128 by decide]; omega⟩), tb.2.1, tb.2.2.1, e21, e22, r, ob_some]
            have c2'' : uD G st .zero s node (cxF (uD G st) 0 ((d', s', node') :: cx')) = uD G st d' s' node' (cxF (uD G st) 0 cx') := eu _ _ _ _ _ _ _
            rw [c2'']
        · rw [if_neg k3]
          have : uD G st .zero s node (cxF (uD G st) 0 cx) = 0 := by
            show (if kd G node = 1 then 0 else if kd G node = 3 then _ else 0) = 0
            split
            · rfl
            · rfl
          rw [this]; rfl
      | intMul t d' =>
        obtain ⟨⟨t0, t1⟩, h4, s', ⟨a0, a1⟩, pu, ent, A'⟩ := A
        have h4' := h4 (by decide)
        have hr := root_in W t0 t1
        have co : CxOK G st M s' cx := by
          have z : sp G (ft G (sEnt st s').1) = 0 := by rw [ent]; exact h4'.2.2
          cases cx with
          | nil => exact z
          | cons q cx' => exact Or.inl z
        have c1' : uC G st (.intMul t d') s node (cxF (uC G st) 0 cx) = uC G st d' s' (ft G t) (cxF (uC G st) 0 cx) + 1 := by
          show uC G st d' (sPut st s (off G node)) (ft G t) _ + 1 = _
          rw [pu]
        have c2'' : uD G st (.intMul t d') s node (cxF (uD G st) 0 cx) = uD G st d' s' (ft G t) (cxF (uD G st) 0 cx) := by
          show uD G st d' (sPut st s (off G node)) (ft G t) _ = _
          rw [pu]
        have r := (ih d' s' 1 (ft G t) cx ⟨Or.inr rfl, A', ⟨a0, by omega⟩, ⟨hr.1, hr.2.1⟩, ⟨by rw [ent, hr.2.2], fun z => by rw [hr.2.2]; exact z⟩, co⟩).1 rfl (by omega)
        rw [show off G (ft G t) = 0 by unfold off; rw [hr.2.2]; omega] at r
        rw [if_neg (by omega), if_pos h4'.2.1, pu, r, ob_some, c2'']
      | sub x' d' =>
        obtain ⟨-, hk0, Ax, Ad⟩ := A
        obtain ⟨t, o', ex⟩ : ∃ t o', x' = .intMul t o' := by
          cases x' with
          | zero => exact absurd Ax.1 (by decide)
          | var _ => exact False.elim Ax
          | intMul t d' => exact ⟨t, d', rfl⟩
          | neg _ => exact absurd Ax.1 (by decide)
          | sub _ _ => exact absurd Ax.1 (by decide)
          | natMul _ _ => exact absurd Ax.1 (by decide)
          | add _ _ => exact absurd Ax.1 (by decide)
        subst ex
        obtain ⟨⟨t0, t1⟩, h4, s', ⟨a0, a1⟩, pu, ent, A'⟩ := Ax
        have hr := root_in W t0 t1
        have co : CxOK G st M s' ((d', s, node) :: cx) := Or.inr ⟨by rw [ent], ⟨s0, s1⟩, ⟨n0, n1⟩, ⟨et, su⟩, Ad, cxo⟩
        have c1' : uC G st (.sub (.intMul t o') d') s node (cxF (uC G st) 0 cx) = uC G st o' s' (ft G t) (cxF (uC G st) 0 ((d', s, node) :: cx)) + 1 := by
          show uC G st o' (sPut st s (off G node)) (ft G t) _ + 1 = _
          rw [pu]
          rfl
        have c2'' : uD G st (.sub (.intMul t o') d') s node (cxF (uD G st) 0 cx) = uD G st o' s' (ft G t) (cxF (uD G st) 0 ((d', s, node) :: cx)) := by
          show uD G st o' (sPut st s (off G node)) (ft G t) _ = _
          rw [pu]
          rfl
        have r := (ih o' s' 1 (ft G t) ((d', s, node) :: cx) ⟨Or.inr rfl, A', ⟨a0, by omega⟩, ⟨hr.1, hr.2.1⟩, ⟨by rw [ent, hr.2.2], fun z => by rw [hr.2.2]; exact z⟩, co⟩).1 rfl (by omega)
        rw [show off G (ft G t) = 0 by unfold off; rw [hr.2.2]; omega] at r
        rw [if_pos hk0, pu, if_neg (by omega), r, ob_some, c2'']
    · subst h0
      have hk0 : kd G node = 0 := by
        cases d with
        | zero => exact absurd A.1 (by decide)
        | var _ => exact False.elim A
        | neg _ => exact absurd A.1 (by decide)
        | sub _ _ => exact absurd A.1 (by decide)
        | intMul t d' => exact absurd (A.2.1 (by decide)).1 (by decide)
        | natMul _ _ => exact A.2.1
        | add _ _ => exact A.2.1
      have c := (ch_in W n0 n1 hk0).1
      have ssn := (wf_sp W n0 n1).2.2.2 hk0
      have sc1 := (wf_sp W c.2.1 c.2.2.1).1
      have q8 : g 121 8 = 126 := ms_at (bm_S B) (by decide)
      have q9 : g 121 9 = 127 := ms_at (bm_S B) (by decide)
      have y8 : kK 126 = 21 ∧ (0 : Int) ≤ node ∧ node < kL 126 := ⟨kK_126, n0, by rw [kL_126]; omega⟩
      have y9 : kK 127 = 21 ∧ (0 : Int) ≤ node ∧ node < kL 127 := ⟨kK_127, n0, by rw [kL_127]; omega⟩
      have own1 := M_own_ok B W c.2.1 c.2.2.1
      rw [c.2.2.2] at own1
      show (if 0 ≤ e then M_deepBelow_b (M_deepAbove_G e) e 121 s (off G node) g else none) = _
      rw [if_pos (Nat.zero_le _)]
      unfold M_deepBelow_b
      rw [if_pos kK_121, q49, if_pos y49, q148, q4, if_pos y4, q122, eat, q8, if_pos y8, gx.2.2.2.1, own1, ob_some]
      cases d with
      | zero => exact absurd A.1 (by decide)
      | var _ => exact False.elim A
      | neg _ => exact absurd A.1 (by decide)
      | sub _ _ => exact absurd A.1 (by decide)
      | intMul t d' => exact absurd (A.2.1 (by decide)).1 (by decide)
      | natMul m d' =>
        obtain ⟨-, -, c2', A'⟩ := A
        rw [if_pos c2'] at ssn
        have su1 : SpU G (c1 G node) := fun z => by rw [c.2.2.2]; exact su (by omega)
        have cc : uC G st (.natMul m d') s node (cxF (uC G st) 0 cx) = uC G st d' s (c1 G node) (cxF (uC G st) 0 cx) + 2 := rfl
        have r := (ih d' s 1 (c1 G node) cx ⟨Or.inr rfl, A', ⟨s0, s1⟩, ⟨c.2.1, c.2.2.1⟩, ⟨by rw [c.2.2.2]; exact et, su1⟩, cxo⟩).1 rfl (by omega)
        have bd := uD_uC (G := G) (st := st) d' s (c1 G node) _ _ (cD_cC (G := G) (st := st) cx)
        rw [r, ob_some, q9, if_pos y9, gx.2.2.2.2.1, if_pos c2']
        unfold M_deepBelow_j79
        have : uD G st (.natMul m d') s node (cxF (uD G st) 0 cx) = uD G st d' s (c1 G node) (cxF (uD G st) 0 cx) + 1 := rfl
        rw [this]
        exact congrArg some (by unfold w32; omega)
      | add x y =>
        obtain ⟨-, -, c2', Ax, Ay⟩ := A
        rw [if_neg c2'] at ssn
        have c' := (ch_in W n0 n1 hk0).2 c2'
        have sc2 := (wf_sp W c'.2.1 c'.2.2.1).1
        have sn1 := (wf_sp W n0 n1).1
        have su1 : SpU G (c1 G node) := fun z => by rw [c.2.2.2]; exact su (by omega)
        have su2 : SpU G (c2 G node) := fun z => by rw [c'.2.2.2]; exact su (by omega)
        have own2 := M_own_ok B W c'.2.1 c'.2.2.1
        rw [c'.2.2.2] at own2
        have cc : uC G st (.add x y) s node (cxF (uC G st) 0 cx) = uC G st x s (c1 G node) (cxF (uC G st) 0 cx) + uC G st y s (c2 G node) (cxF (uC G st) 0 cx) + 2 := rfl
        have r1 := (ih x s 1 (c1 G node) cx ⟨Or.inr rfl, Ax, ⟨s0, s1⟩, ⟨c.2.1, c.2.2.1⟩, ⟨by rw [c.2.2.2]; exact et, su1⟩, cxo⟩).1 rfl (by omega)
        have r2 := (ih y s 1 (c2 G node) cx ⟨Or.inr rfl, Ay, ⟨s0, s1⟩, ⟨c'.2.1, c'.2.2.1⟩, ⟨by rw [c'.2.2.2]; exact et, su2⟩, cxo⟩).1 rfl (by omega)
        have bd1 := uD_uC (G := G) (st := st) x s (c1 G node) _ _ (cD_cC (G := G) (st := st) cx)
        have bd2 := uD_uC (G := G) (st := st) y s (c2 G node) _ _ (cD_cC (G := G) (st := st) cx)
        rw [r1, ob_some, q9, if_pos y9, gx.2.2.2.2.1, if_neg c2', own2, ob_some, r2, ob_some]
        unfold M_deepBelow_j79
        have : uD G st (.add x y) s node (cxF (uD G st) 0 cx) = max (uD G st x s (c1 G node) (cxF (uD G st) 0 cx)) (uD G st y s (c2 G node) (cxF (uD G st) 0 cx)) + 1 := rfl
        rw [this]
        exact congrArg some (by unfold w32; omega)
end
