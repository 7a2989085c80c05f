/-! the reference tells a tree -/
def uTl (G : Gm) (st : St) : Dv → Int → Int → List Int → List Int := uf G st (fun _ node => [97 + lb G node]) [] id id (fun _ x => x) (fun _ x y => x ++ y)
/-- all signs, or the letters alone -/
def uTm (G : Gm) (st : St) (md : Int) : Dv → Int → Int → List Int → List Int := if md = 0 then uT G st else uTl G st
def sg (md v : Int) : List Int := if md = 0 then [v] else []
def TeM (g : Hp) (l : List Int) : Prop := g 121 57 = (l.length : Int) ∧ g 121 56 = 155 ∧ ∀ (i : Nat) (v : Int), l[i]? = some v → g 155 i = v
def TF (g g' : Hp) : Prop := ∀ c s, (c ≠ 121 ∨ s ≠ 57) → c ≠ 155 → g' c s = g c s
theorem TF.rf {g : Hp} : TF g g := fun _ _ _ _ => rfl
theorem TF.tr {a b c : Hp} (x : TF a b) (y : TF b c) : TF a c := fun i s h1 h2 => by rw [y i s h1 h2, x i s h1 h2]
section
variable {g g' : Hp} {o8 n M : Int} {G : Gm} {row : Int → Int} {st : St}
theorem BM_tf (B : BM g G o8 n row) (F : TF g g') : BM g' G o8 n row := BM_eq B (fun s hs => F 121 s (Or.inr (by omega)) (by decide)) (fun c s hc => F c s (Or.inl (by omega)) (by omega))
theorem SShp_tf (S : SShp g) (F : TF g g') : SShp g' := by
  intro q hq
  have : ∀ q ∈ ssL, q.1 ≠ 57 := by decide
  rw [F 121 q.1 (Or.inr (this q hq)) (by decide)]
  exact S q hq
theorem RTab_tf (T : RTab g st) (F : TF g g') : RTab g' st := by
  refine ⟨by rw [F 121 48 (Or.inr (by decide)) (by decide)]; exact T.1, fun s s0 s1 => ?_⟩
  rw [F 148 _ (Or.inl (by decide)) (by decide), F 149 _ (Or.inl (by decide)) (by decide), F 150 _ (Or.inl (by decide)) (by decide)]
  have := T.2 s s0 s1
  exact ⟨this.1, this.2.1, this.2.2.1, fun n a b => by rw [F 152 _ (Or.inl (by decide)) (by decide)]; exact this.2.2.2 n a b⟩
theorem M_puts_ok {l : List Int} {v : Int} (T : TeM g l) (hl : (l.length : Int) < kL 155) (v0 : 0 ≤ v) (v1 : v < 128) : ∃ g', M_puts 121 v g = some g' ∧ TeM g' (l ++ [v]) ∧ TF g g' := by
  have k5 : kK 155 = 20 := by decide
  have kl : kL 155 < 100000 := by decide
  have e8 : w8 (w8 v) = v := by unfold w8; omega
  unfold M_puts
  rw [if_pos kK_121, T.2.1, T.1, if_pos ⟨k5, by omega, hl⟩]
  simp only
  rw [e8, hput_ne1 (show (121 : Int) ≠ 155 by decide), T.1, show w32 ((l.length : Int) + 1) = l.length + 1 by unfold w32; omega]
  refine ⟨_, rfl, ⟨?_, ?_, ?_⟩, ?_⟩
  · rw [hput_eq, List.length_append]; show _ = ((l.length + 1 : Nat) : Int); omega
  · rw [hput_ne2 (by decide), hput_ne1 (by decide)]; exact T.2.1
  · intro i x hi
    rw [hput_ne1 (by decide)]
    rcases app1.mp hi with z | ⟨z1, z2⟩
    · have hi' : i < l.length := by
        by_cases hh : i < l.length
        · exact hh
        · rw [List.getElem?_eq_none (by omega)] at z
          exact absurd z (by simp)
      rw [hput_ne2 (by omega)]
      exact T.2.2 i x z
    · subst z1 z2
      rw [hput_eq]
  · intro c s h1 h2
    rcases h1 with z | z
    · rw [hput_ne1 z, hput_ne1 h2]
    · rw [hput_ne2 z, hput_ne1 h2]
theorem M_signs_ok {l : List Int} {v md : Int} (T : TeM g l) (hm : g 121 58 = md) (hl : (l.length : Int) < kL 155) (v0 : 0 ≤ v) (v1 : v < 128) : ∃ g', M_signs 121 v g = some g' ∧ TeM g' (l ++ sg md v) ∧ TF g g' := by
  unfold M_signs sg
  rw [if_pos kK_121, hm]
  by_cases hz : md = 0
  · obtain ⟨g', x, t, f⟩ := M_puts_ok T hl v0 v1
    rw [if_pos hz, if_pos hz, x, ob_some]
    exact ⟨g', rfl, t, f⟩
  · rw [if_neg hz, if_neg hz, List.append_nil]
    exact ⟨g, rfl, T, TF.rf⟩
theorem uTm_b1 {md : Int} {m : Nat} {d : Dv} {s node : Int} {F : List Int} : uTm G st md (.natMul m d) s node F = sg md 40 ++ sg md (65 + lb G node) ++ sg md 32 ++ uTm G st md d s (c1 G node) F ++ sg md 41 := by
  unfold uTm sg
  by_cases hz : md = 0
  · simp only [if_pos hz]
    show [40, 65 + lb G node] ++ 32 :: uT G st d s (c1 G node) F ++ [41] = _
    simp
  · simp only [if_neg hz]
    show uTl G st d s (c1 G node) F = _
    simp
theorem uTm_b2 {md : Int} {x y : Dv} {s node : Int} {F : List Int} : uTm G st md (.add x y) s node F = sg md 40 ++ sg md (65 + lb G node) ++ sg md 32 ++ uTm G st md x s (c1 G node) F ++ sg md 32 ++ uTm G st md y s (c2 G node) F ++ sg md 41 := by
  unfold uTm sg
  by_cases hz : md = 0
  · simp only [if_pos hz]
    show [40, 65 + lb G node] ++ 32 :: uT G st x s (c1 G node) F ++ 32 :: uT G st y s (c2 G node) F ++ [41] = _
    simp
  · simp only [if_neg hz]
    show uTl G st x s (c1 G node) F ++ uTl G st y s (c2 G node) F = _
    simp
theorem uTm_z {md : Int} {s node : Int} {F : List Int} : uTm G st md .zero s node F = if kd G node = 1 then [97 + lb G node] else if kd G node = 3 then F else sg md 46 := by
  unfold uTm sg
  by_cases hz : md = 0
  · simp only [if_pos hz]; rfl
  · simp only [if_neg hz]; rfl
theorem uTm_i {md t : Int} {d : Dv} {s node : Int} {F : List Int} : uTm G st md (.intMul t d) s node F = uTm G st md d (sPut st s (off G node)) (ft G t) F := by
  unfold uTm
  by_cases hz : md = 0
  · simp only [if_pos hz]; rfl
  · simp only [if_neg hz]; rfl
theorem uTm_n {md : Int} {d : Dv} {s node : Int} {F : List Int} : uTm G st md (.neg d) s node F = uTm G st md d s node F := by
  unfold uTm
  by_cases hz : md = 0
  · simp only [if_pos hz]; rfl
  · simp only [if_neg hz]; rfl
theorem uTm_s {md : Int} {x d : Dv} {s node : Int} {F : List Int} : uTm G st md (.sub x d) s node F = uTm G st md x s node (uTm G st md d s node F) := by
  unfold uTm
  by_cases hz : md = 0
  · simp only [if_pos hz]; rfl
  · simp only [if_neg hz]; rfl
end
def tb5 (R : Nat → List Int → Hp → Option (Hp)) (d : Nat) (s t nd' : Int) (f : Hp) : Option Hp := if kK (f 121 9) = 21 ∧ (0 : Int) ≤ nd' ∧ nd' < kL (f 121 9) then ob (M_own 121 t (f (f 121 9) nd') f) (fun r88 => ob (R 0 [121, s, r88] f) (fun r91 => M_tellsBelow_j94 R d 121 r91)) else none
def tb4 (R : Nat → List Int → Hp → Option (Hp)) (d : Nat) (s t nd' : Int) (f : Hp) : Option Hp := if kK (f 121 9) = 21 ∧ (0 : Int) ≤ nd' ∧ nd' < kL (f 121 9) then if f (f 121 9) nd' = (-1) then M_tellsBelow_j94 R d 121 f else ob (M_signs 121 32 f) (fun r74 => tb5 R d s t nd' r74) else none
def tb3 (R : Nat → List Int → Hp → Option (Hp)) (d : Nat) (s t nd' : Int) (f : Hp) : Option Hp := if kK (f 121 8) = 21 ∧ (0 : Int) ≤ nd' ∧ nd' < kL (f 121 8) then ob (M_own 121 t (f (f 121 8) nd') f) (fun r54 => ob (R 0 [121, s, r54] f) (fun r57 => tb4 R d s t nd' r57)) else none
def tb2 (R : Nat → List Int → Hp → Option (Hp)) (d : Nat) (s t nd' : Int) (f : Hp) : Option Hp := if kK (f 121 6) = 21 ∧ (0 : Int) ≤ nd' ∧ nd' < kL (f 121 6) then ob (M_signs 121 (w32 (65 + (f (f 121 6) nd'))) f) (fun r34 => ob (M_signs 121 32 r34) (fun r40 => tb3 R d s t nd' r40)) else none
theorem tellsBelow_eq (R : Nat → List Int → Hp → Option (Hp)) (d : Nat) (s o : Int) (h : Hp) : M_tellsBelow_b R d 121 s o h = if kK 121 = 11 then if kK (h 121 49) = 21 ∧ (0 : Int) ≤ s ∧ s < kL (h 121 49) then if kK (h 121 4) = 21 ∧ (0 : Int) ≤ h (h 121 49) s ∧ h (h 121 49) s < kL (h 121 4) then ob (M_signs 121 40 h) (fun r20 => tb2 R d s (h (h 121 49) s) (w32 ((h (h 121 4) (h (h 121 49) s)) + o)) r20) else none else none else none := rfl
section
variable {o8 n M : Int} {G : Gm} {row : Int → Int} {st : St}
/-- what a telling leaves -/
def Told (F : Option Hp) (g : Hp) (l T : List Int) : Prop := ∃ g', F = some g' ∧ TeM g' (l ++ T) ∧ TF g g'
theorem tells_spec (W : WF G) (hl : st.length ≤ 128) (hM : M ≤ (st.length : Int)) (md : Int) : ∀ (e : Nat) (d : Dv) (s half node : Int) (cx : Cx) (g : Hp) (l : List Int), Uok G st M (some (d, s, half, node, cx)) → BM g G o8 n row → SShp g → RTab g st → g 121 58 = md → TeM g l → (l.length : Int) + (uTm G st md d s node (cxF (uTm G st md) [] cx)).length < kL 155 → (half = 1 → uC G st d s node (cxF (uC G st) 0 cx) ≤ e → Told (M_tellsAbove_G (e + 1) 0 [121, s, off G node] g) g l (uTm G st md d s node (cxF (uTm G st md) [] cx))) ∧ (half = 0 → uC G st d s node (cxF (uC G st) 0 cx) ≤ e + 1 → Told (M_tellsAbove_G (e + 1) 1 [121, s, off G node] g) g l (uTm G st md d s node (cxF (uTm G st md) [] cx))) := by
  have nn := wf_nn W
  intro e
  induction e with
  | zero =>
    intro d s half node cx g l uo B S T hm te room
    obtain ⟨hh, A, ⟨s0, s1⟩, ⟨n0, n1⟩, ⟨et, su⟩, cxo⟩ := uo
    have wp : ∀ (d : Dv) (s half node : Int) (F : Nat), At G st 0 M d s half node → uW G st d s node 0 ≤ uC G st d s node F := fun d s half node F _ => uf_rel (fun x y => x ≤ y) (fun _ _ => Nat.le_refl _) (Nat.le_refl _) (fun x y r => by show x + 1 ≤ y + 1; omega) (fun x y r => by show x ≤ y + 1; omega) (fun _ x y r => by show x + 1 ≤ y + 2; omega) (fun _ x y u v r r' => by show x + u + 1 ≤ y + v + 2; omega) d s node 0 F (Nat.zero_le _)
    refine ⟨fun h1 hC => ?_, fun h0 hC => ?_⟩
    · have := uW_pos d s half node 0 A
      have := wp d s half node (cxF (uC G st) 0 cx) A
      omega
    · subst h0
      exfalso
      cases d with
      | zero => exact absurd A.1 (by decide)
      | var _ => exact False.elim A
      | neg _ => exact absurd A.1 (by decide)
      | sub _ _ => exact absurd A.1 (by decide)
      | intMul t d' => exact absurd (A.2.1 (by decide)).1 (by decide)
      | natMul m d' =>
        have : uC G st (.natMul m d') s node (cxF (uC G st) 0 cx) = uC G st d' s (c1 G node) (cxF (uC G st) 0 cx) + 2 := rfl
        omega
      | add x y =>
        have : uC G st (.add x y) s node (cxF (uC G st) 0 cx) = uC G st x s (c1 G node) (cxF (uC G st) 0 cx) + uC G st y s (c2 G node) (cxF (uC G st) 0 cx) + 2 := rfl
        omega
  | succ e ih =>
    intro d s half node cx g l uo B S T hm te room
    obtain ⟨hh, A, ⟨s0, s1⟩, ⟨n0, n1⟩, ⟨et, su⟩, cxo⟩ := uo
    obtain ⟨q49, y49, q148, q4, y4, q122, eat, o0⟩ := at_ok B W S T hl s0 s1 n0 n1 et
    have gx := (bm_X B).2.2.2.2.1 node n0 n1
    have q5 : g 121 5 = 123 := ms_at (bm_S B) (by decide)
    have y5 : kK 123 = 21 ∧ (0 : Int) ≤ node ∧ node < kL 123 := ⟨kK_123, n0, by rw [kL_123]; omega⟩
    refine ⟨fun h1 hC => ?_, fun h0 hC => ?_⟩
    · subst h1
      show Told (if 1 ≤ e + 1 then M_tellsAbove_b (M_tellsAbove_G (e + 1)) (e + 1) 121 s (off G node) g else none) g l _
      rw [if_pos (by omega)]
      unfold M_tellsAbove_b
      rw [if_pos kK_121, M_put_ok S T hl s0 s1 o0.1 o0.2, ob_some, q49, if_pos y49, q148, q4, if_pos y4, q122, eat, q5, if_pos y5, gx.1]
      cases d with
      | var _ => exact False.elim A
      | natMul _ _ => exact absurd A.1 (by decide)
      | add _ _ => exact absurd A.1 (by decide)
      | neg d' =>
        obtain ⟨-, hk0, hp, A'⟩ := A
        rw [uTm_n] at room ⊢
        obtain ⟨g', x, t1, t2⟩ := (ih d' s 0 node cx g l ⟨Or.inl rfl, A', ⟨s0, s1⟩, ⟨n0, n1⟩, ⟨et, su⟩, cxo⟩ B S T hm te room).2 rfl hC
        rw [if_pos hk0, if_pos hp, x, ob_some]
        exact ⟨g', rfl, t1, t2⟩
      | zero =>
        obtain ⟨-, hkd, hp⟩ := A
        rw [if_neg (by omega)]
        rw [uTm_z] at room ⊢
        by_cases k1 : kd G node = 1
        · have ll := (wf_lb W n0 n1).1 (by omega)
          rw [if_pos k1] at room ⊢
          obtain ⟨g', x, t1, t2⟩ := M_puts_ok (v := 97 + lb G node) te (by omega) (by omega) (by omega)
          rw [if_pos k1, ms_at (bm_S B) (show ((6 : Int), (124 : Int)) ∈ msL by decide), if_pos ⟨kK_124, n0, by rw [kL_124]; omega⟩, gx.2.1, show w32 (97 + lb G node) = 97 + lb G node by unfold w32; omega, x, ob_some]
          exact ⟨g', rfl, t1, t2⟩
        rw [if_neg k1] at room ⊢
        rw [if_neg k1]
        by_cases k2 : kd G node = 2
        · have k3n : ¬ kd G node = 3 := by omega
          rw [if_neg k3n] at room
          obtain ⟨g', x, t1, t2⟩ := M_signs_ok (v := 46) te hm (by omega) (by decide) (by decide)
          rw [if_pos k2, x, ob_some, if_neg k3n]
          exact ⟨g', rfl, t1, t2⟩
        · have k3 : kd G node = 3 := by omega
          rw [if_pos k3] at room ⊢
          rw [if_neg k2, if_pos k3]
          have spn : sp G (ft G (sEnt st s).1) = 1 := by rw [et]; exact su ((wf_sp W n0 n1).2.1 k3)
          cases cx with
          | nil =>
            have : sp G (ft G (sEnt st s).1) = 0 := cxo
            omega
          | cons q cx' =>
            obtain ⟨d', s', node'⟩ := q
            rcases cxo with z | ⟨q1, ⟨q2, q3⟩, ⟨q4', q5'⟩, q6, q7, q8⟩
            · omega
            have e21 : (sEnt st s).2.1 = s' := congrArg Prod.fst q1
            have e22 : (sEnt st s).2.2 = off G node' := congrArg Prod.snd q1
            have tb := T.2 s s0 s1
            have c1' : uC G st .zero s node (cxF (uC G st) 0 ((d', s', node') :: cx')) = uC G st d' s' node' (cxF (uC G st) 0 cx') + 1 := by
              show (if kd G node = 1 then 1 else if kd G node = 3 then _ + 1 else 1) = _
              rw [if_neg k1, if_pos k3]
              rfl
            obtain ⟨g', x, t1, t2⟩ := (ih d' s' 0 node' cx' g l ⟨Or.inl rfl, q7, ⟨q2, q3⟩, ⟨q4', q5'⟩, q6, q8⟩ B S T hm te room).2 rfl (by omega)
            rw [ss_at S (show ((50 : Int), (149 : Int)) ∈ ssL by decide), if_pos (show kK 149 = 21 ∧ (0 : Int) ≤ s ∧ s < kL 149 from ⟨by decide, s0, by rw [show kL 149 = 128 by decide]; omega⟩), ss_at S (show ((51 : Int), (150 : Int)) ∈ ssL by decide), if_pos (show kK 150 = 21 ∧ (0 : Int) ≤ s ∧ s < kL 150 from ⟨by decide, s0, by rw [show kL 150 = 128 by decide]; omega⟩), tb.2.1, tb.2.2.1, e21, e22, x, ob_some]
            exact ⟨g', rfl, t1, t2⟩
      | intMul t d' =>
        obtain ⟨⟨t0, t1⟩, h4, s', ⟨a0, a1⟩, pu, ent, A'⟩ := A
        have h4' := h4 (by decide)
        have hr := root_in W t0 t1
        have co : CxOK G st M s' cx := by
          have z : sp G (ft G (sEnt st s').1) = 0 := by rw [ent]; exact h4'.2.2
          cases cx with
          | nil => exact z
          | cons q cx' => exact Or.inl z
        have c1' : uC G st (.intMul t d') s node (cxF (uC G st) 0 cx) = uC G st d' s' (ft G t) (cxF (uC G st) 0 cx) + 1 := by
          show uC G st d' (sPut st s (off G node)) (ft G t) _ + 1 = _
          rw [pu]
        rw [uTm_i, pu] at room ⊢
        obtain ⟨g', x, r1, r2⟩ := (ih d' s' 1 (ft G t) cx g l ⟨Or.inr rfl, A', ⟨a0, by omega⟩, ⟨hr.1, hr.2.1⟩, ⟨by rw [ent, hr.2.2], fun z => by rw [hr.2.2]; exact z⟩, co⟩ B S T hm te room).1 rfl (by omega)
        rw [show off G (ft G t) = 0 by unfold off; rw [hr.2.2]; omega] at x
        rw [if_neg (by omega), if_neg (by omega), if_neg (by omega), if_neg (by omega), x, ob_some]
        exact ⟨g', rfl, r1, r2⟩
      | sub x' d' =>
        obtain ⟨-, hk0, Ax, Ad⟩ := A
        obtain ⟨t, o', ex⟩ : ∃ t o', x' = .intMul t o' := by
          cases x' with
          | zero => exact absurd Ax.1 (by decide)
          | var _ => exact False.elim Ax
          | intMul t d' => exact ⟨t, d', rfl⟩
          | neg _ => exact absurd Ax.1 (by decide)
          | sub _ _ => exact absurd Ax.1 (by decide)
          | natMul _ _ => exact absurd Ax.1 (by decide)
          | add _ _ => exact absurd Ax.1 (by decide)
        subst ex
        obtain ⟨⟨t0, t1⟩, h4, s', ⟨a0, a1⟩, pu, ent, A'⟩ := Ax
        have hr := root_in W t0 t1
        have co : CxOK G st M s' ((d', s, node) :: cx) := Or.inr ⟨by rw [ent], ⟨s0, s1⟩, ⟨n0, n1⟩, ⟨et, su⟩, Ad, cxo⟩
        have c1' : uC G st (.sub (.intMul t o') d') s node (cxF (uC G st) 0 cx) = uC G st o' s' (ft G t) (cxF (uC G st) 0 ((d', s, node) :: cx)) + 1 := by
          show uC G st o' (sPut st s (off G node)) (ft G t) _ + 1 = _
          rw [pu]
          rfl
        rw [uTm_s, uTm_i, pu] at room ⊢
        obtain ⟨g', x, r1, r2⟩ := (ih o' s' 1 (ft G t) ((d', s, node) :: cx) g l ⟨Or.inr rfl, A', ⟨a0, by omega⟩, ⟨hr.1, hr.2.1⟩, ⟨by rw [ent, hr.2.2], fun z => by rw [hr.2.2]; exact z⟩, co⟩ B S T hm te room).1 rfl (by omega)
        rw [show off G (ft G t) = 0 by unfold off; rw [hr.2.2]; omega] at x
        rw [if_pos hk0, if_neg (by omega), x, ob_some]
        exact ⟨g', rfl, r1, r2⟩
    · subst h0
      have hk0 : kd G node = 0 := by
        cases d with
        | zero => exact absurd A.1 (by decide)
        | var _ => exact False.elim A
        | neg _ => exact absurd A.1 (by decide)
        | sub _ _ => exact absurd A.1 (by decide)
        | intMul t d' => exact absurd (A.2.1 (by decide)).1 (by decide)
        | natMul _ _ => exact A.2.1
        | add _ _ => exact A.2.1
      have c := (ch_in W n0 n1 hk0).1
      have ll := (wf_lb W n0 n1).1 (by omega)
      have ssn := (wf_sp W n0 n1).2.2.2 hk0
      have sc1 := (wf_sp W c.2.1 c.2.2.1).1
      have y8 : kK 126 = 21 ∧ (0 : Int) ≤ node ∧ node < kL 126 := ⟨kK_126, n0, by rw [kL_126]; omega⟩
      have y9 : kK 127 = 21 ∧ (0 : Int) ≤ node ∧ node < kL 127 := ⟨kK_127, n0, by rw [kL_127]; omega⟩
      have y6 : kK 124 = 21 ∧ (0 : Int) ≤ node ∧ node < kL 124 := ⟨kK_124, n0, by rw [kL_124]; omega⟩
      have sgl : ∀ v, (sg md v).length ≤ 1 := fun v => by unfold sg; split <;> simp
      -- the head of a branch
      have head : (l.length : Int) + (sg md 40 ++ sg md (65 + lb G node) ++ sg md 32).length < kL 155 → ∃ g3, (ob (M_signs 121 40 g) (fun r20 => tb2 (M_tellsAbove_G (e + 1)) (e + 1) s (tr G node) node r20)) = tb3 (M_tellsAbove_G (e + 1)) (e + 1) s (tr G node) node g3 ∧ TeM g3 (l ++ (sg md 40 ++ sg md (65 + lb G node) ++ sg md 32)) ∧ TF g g3 := by
        intro hr
        simp only [List.length_append] at hr
        obtain ⟨g1, x1, t1, f1⟩ := M_signs_ok (v := 40) te hm (by omega) (by decide) (by decide)
        have B1 := BM_tf B f1
        have gx1 := (bm_X B1).2.2.2.2.1 node n0 n1
        have m1 : g1 121 58 = md := by rw [f1 121 58 (Or.inr (by decide)) (by decide)]; exact hm
        obtain ⟨g2, x2, t2, f2⟩ := M_signs_ok (v := 65 + lb G node) t1 m1 (by rw [List.length_append]; omega) (by omega) (by omega)
        have m2 : g2 121 58 = md := by rw [f2 121 58 (Or.inr (by decide)) (by decide)]; exact m1
        obtain ⟨g3, x3, t3, f3⟩ := M_signs_ok (v := 32) t2 m2 (by rw [List.length_append, List.length_append]; omega) (by decide) (by decide)
        refine ⟨g3, ?_, by rw [← List.append_assoc, ← List.append_assoc]; exact t3, (f1.tr f2).tr f3⟩
        rw [x1, ob_some]
        unfold tb2
        rw [ms_at (bm_S B1) (show ((6 : Int), (124 : Int)) ∈ msL by decide), if_pos y6, gx1.2.1, show w32 (65 + lb G node) = 65 + lb G node by unfold w32; omega, x2, ob_some, x3, ob_some]
      show Told (if 1 ≤ e + 1 then M_tellsBelow_b (M_tellsAbove_G (e + 1)) (e + 1) 121 s (off G node) g else none) g l _
      rw [if_pos (by omega), tellsBelow_eq, if_pos kK_121, q49, if_pos y49, q148, q4, if_pos y4, q122, eat]
      cases d with
      | zero => exact absurd A.1 (by decide)
      | var _ => exact False.elim A
      | neg _ => exact absurd A.1 (by decide)
      | sub _ _ => exact absurd A.1 (by decide)
      | intMul t d' => exact absurd (A.2.1 (by decide)).1 (by decide)
      | natMul m d' =>
        obtain ⟨-, -, c2', A'⟩ := A
        rw [if_pos c2'] at ssn
        have su1 : SpU G (c1 G node) := fun z => by rw [c.2.2.2]; exact su (by omega)
        have cc : uC G st (.natMul m d') s node (cxF (uC G st) 0 cx) = uC G st d' s (c1 G node) (cxF (uC G st) 0 cx) + 2 := rfl
        rw [uTm_b1] at room ⊢
        have room' := room
        simp only [List.length_append] at room
        obtain ⟨g3, x3, t3, f3⟩ := head (by simp only [List.length_append]; omega)
        have B3 := BM_tf B f3
        have gx3 := (bm_X B3).2.2.2.2.1 node n0 n1
        have own1 := M_own_ok B3 W c.2.1 c.2.2.1
        rw [c.2.2.2] at own1
        have m3 : g3 121 58 = md := by rw [f3 121 58 (Or.inr (by decide)) (by decide)]; exact hm
        obtain ⟨g4, x4, t4, f4⟩ := (ih d' s 1 (c1 G node) cx g3 _ ⟨Or.inr rfl, A', ⟨s0, s1⟩, ⟨c.2.1, c.2.2.1⟩, ⟨by rw [c.2.2.2]; exact et, su1⟩, cxo⟩ B3 (SShp_tf S f3) (RTab_tf T f3) m3 t3 (by simp only [List.length_append]; omega)).1 rfl (by omega)
        have B4 := BM_tf B3 f4
        have gx4 := (bm_X B4).2.2.2.2.1 node n0 n1
        have m4 : g4 121 58 = md := by rw [f4 121 58 (Or.inr (by decide)) (by decide)]; exact m3
        obtain ⟨g5, x5, t5, f5⟩ := M_signs_ok (v := 41) t4 m4 (by simp only [List.length_append]; omega) (by decide) (by decide)
        rw [x3]
        unfold tb3
        rw [ms_at (bm_S B3) (show ((8 : Int), (126 : Int)) ∈ msL by decide), if_pos y8, gx3.2.2.2.1, own1, ob_some, x4, ob_some]
        unfold tb4
        rw [ms_at (bm_S B4) (show ((9 : Int), (127 : Int)) ∈ msL by decide), if_pos y9, gx4.2.2.2.2.1, if_pos c2']
        unfold M_tellsBelow_j94
        rw [if_pos kK_121, x5, ob_some]
        refine ⟨g5, rfl, ?_, (f3.tr f4).tr f5⟩
        simp only [List.append_assoc] at t5 ⊢
        exact t5
      | add x y =>
        obtain ⟨-, -, c2', Ax, Ay⟩ := A
        rw [if_neg c2'] at ssn
        have c' := (ch_in W n0 n1 hk0).2 c2'
        have sc2 := (wf_sp W c'.2.1 c'.2.2.1).1
        have sn1 := (wf_sp W n0 n1).1
        have su1 : SpU G (c1 G node) := fun z => by rw [c.2.2.2]; exact su (by omega)
        have su2 : SpU G (c2 G node) := fun z => by rw [c'.2.2.2]; exact su (by omega)
        have cc : uC G st (.add x y) s node (cxF (uC G st) 0 cx) = uC G st x s (c1 G node) (cxF (uC G st) 0 cx) + uC G st y s (c2 G node) (cxF (uC G st) 0 cx) + 2 := rfl
        rw [uTm_b2] at room ⊢
        simp only [List.length_append] at room
        obtain ⟨g3, x3, t3, f3⟩ := head (by simp only [List.length_append]; omega)
        have B3 := BM_tf B f3
        have gx3 := (bm_X B3).2.2.2.2.1 node n0 n1
        have own1 := M_own_ok B3 W c.2.1 c.2.2.1
        rw [c.2.2.2] at own1
        have m3 : g3 121 58 = md := by rw [f3 121 58 (Or.inr (by decide)) (by decide)]; exact hm
        obtain ⟨g4, x4, t4, f4⟩ := (ih x s 1 (c1 G node) cx g3 _ ⟨Or.inr rfl, Ax, ⟨s0, s1⟩, ⟨c.2.1, c.2.2.1⟩, ⟨by rw [c.2.2.2]; exact et, su1⟩, cxo⟩ B3 (SShp_tf S f3) (RTab_tf T f3) m3 t3 (by simp only [List.length_append]; omega)).1 rfl (by omega)
        have B4 := BM_tf B3 f4
        have gx4 := (bm_X B4).2.2.2.2.1 node n0 n1
        have m4 : g4 121 58 = md := by rw [f4 121 58 (Or.inr (by decide)) (by decide)]; exact m3
        obtain ⟨g5, x5, t5, f5⟩ := M_signs_ok (v := 32) t4 m4 (by simp only [List.length_append]; omega) (by decide) (by decide)
        have B5 := BM_tf B4 f5
        have gx5 := (bm_X B5).2.2.2.2.1 node n0 n1
        have m5 : g5 121 58 = md := by rw [f5 121 58 (Or.inr (by decide)) (by decide)]; exact m4
        have own2 := M_own_ok B5 W c'.2.1 c'.2.2.1
        rw [c'.2.2.2] at own2
        have F5 := (f3.tr f4).tr f5
        obtain ⟨g6, x6, t6, f6⟩ := (ih y s 1 (c2 G node) cx g5 _ ⟨Or.inr rfl, Ay, ⟨s0, s1⟩, ⟨c'.2.1, c'.2.2.1⟩, ⟨by rw [c'.2.2.2]; exact et, su2⟩, cxo⟩ B5 (SShp_tf S F5) (RTab_tf T F5) m5 t5 (by simp only [List.length_append]; omega)).1 rfl (by omega)
        have m6 : g6 121 58 = md := by rw [f6 121 58 (Or.inr (by decide)) (by decide)]; exact m5
        obtain ⟨g7, x7, t7, f7⟩ := M_signs_ok (v := 41) t6 m6 (by simp only [List.length_append]; omega) (by decide) (by decide)
        rw [x3]
        unfold tb3
        rw [ms_at (bm_S B3) (show ((8 : Int), (126 : Int)) ∈ msL by decide), if_pos y8, gx3.2.2.2.1, own1, ob_some, x4, ob_some]
        unfold tb4
        rw [ms_at (bm_S B4) (show ((9 : Int), (127 : Int)) ∈ msL by decide), if_pos y9, gx4.2.2.2.2.1, if_neg c2', x5, ob_some]
        unfold tb5
        rw [ms_at (bm_S B5) (show ((9 : Int), (127 : Int)) ∈ msL by decide), if_pos y9, gx5.2.2.2.2.1, own2, ob_some, x6, ob_some]
        unfold M_tellsBelow_j94
        rw [if_pos kK_121, x7, ob_some]
        refine ⟨g7, rfl, ?_, (F5.tr f6).tr f7⟩
        simp only [List.append_assoc] at t7 ⊢
        exact t7
end
