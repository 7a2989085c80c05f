/-! tell, tellWay: both -/
theorem uT_in {G : Gm} {st : St} (W : WF G) : ∀ (d : Dv) (s half node : Int) (F : List Int), Sh G d half node → 0 ≤ node → node < nN G → (∀ v ∈ F, 0 ≤ v ∧ v < 128) → ∀ v ∈ uT G st d s node F, 0 ≤ v ∧ v < 128
  | .zero, s, half, node, F, H, n0, n1, hF, v, hv => by
    have hv' : v ∈ (if kd G node = 1 then [97 + lb G node] else if kd G node = 3 then F else [46]) := hv
    by_cases k1 : kd G node = 1
    · rw [if_pos k1] at hv'
      have ll := (wf_lb W n0 n1).1 (by omega)
      have : v = 97 + lb G node := by simpa using hv'
      omega
    · rw [if_neg k1] at hv'
      by_cases k3 : kd G node = 3
      · rw [if_pos k3] at hv'; exact hF v hv'
      · rw [if_neg k3] at hv'
        have : v = 46 := by simpa using hv'
        omega
  | .var _, s, half, node, F, H, n0, n1, hF, v, hv => False.elim H
  | .neg d, s, half, node, F, H, n0, n1, hF, v, hv => uT_in W d s 0 node F H.2.2 n0 n1 hF v hv
  | .intMul t d, s, half, node, F, H, n0, n1, hF, v, hv => uT_in W d (sPut st s (off G node)) 1 (ft G t) F H.2.2 (root_in W H.1.1 H.1.2).1 (root_in W H.1.1 H.1.2).2.1 hF v hv
  | .natMul m d, s, half, node, F, H, n0, n1, hF, v, hv => by
    have c := (ch_in W n0 n1 H.2.1).1
    have ll := (wf_lb W n0 n1).1 (by have := H.2.1; omega)
    have hv' : v ∈ [40, 65 + lb G node] ++ 32 :: uT G st d s (c1 G node) F ++ [41] := hv
    simp only [List.mem_append, List.mem_cons, List.not_mem_nil, or_false] at hv'
    rcases hv' with ((z | z) | z | z) | z
    · omega
    · omega
    · omega
    · exact uT_in W d s 1 (c1 G node) F H.2.2.2 c.2.1 c.2.2.1 hF v z
    · omega
  | .add x y, s, half, node, F, H, n0, n1, hF, v, hv => by
    have c := (ch_in W n0 n1 H.2.1).1
    have c' := (ch_in W n0 n1 H.2.1).2 H.2.2.1
    have ll := (wf_lb W n0 n1).1 (by have := H.2.1; omega)
    have hv' : v ∈ [40, 65 + lb G node] ++ 32 :: uT G st x s (c1 G node) F ++ 32 :: uT G st y s (c2 G node) F ++ [41] := hv
    simp only [List.mem_append, List.mem_cons, List.not_mem_nil, or_false] at hv'
    rcases hv' with (((z | z) | z | z) | z | z) | z
    · omega
    · omega
    · omega
    · exact uT_in W x s 1 (c1 G node) F H.2.2.2.1 c.2.1 c.2.2.1 hF v z
    · omega
    · exact uT_in W y s 1 (c2 G node) F H.2.2.2.2 c'.2.1 c'.2.2.1 hF v z
    · omega
  | .sub x d, s, half, node, F, H, n0, n1, hF, v, hv => uT_in W x s 2 node _ H.2.2.1 n0 n1 (fun v' hv' => uT_in W d s 0 node F H.2.2.2 n0 n1 hF v' hv') v hv
/-- what is told is the same on both sides -/
theorem tol_both {h g : Hp} {l : List Int} (hl : l.length ≤ 2048) (hv : ∀ v ∈ l, 0 ≤ v ∧ v < 128) (X : ByT h 3 4 2048 l) (T : TeM g l) : ∃ wl wd, TolX h wl wd ∧ TolM g wl wd := by
  refine ⟨(l.length : Int), fun i => (l[i.toNat]?).getD 0, ⟨by rw [X.1]; omega, by omega, by omega, fun i i0 i1 => ?_⟩, T.1, T.2.1, fun i i0 i1 => ?_⟩
  · obtain ⟨v, hv'⟩ : ∃ v, l[i.toNat]? = some v := ⟨l[i.toNat], List.getElem?_eq_getElem (by omega)⟩
    have := X.2 i.toNat v hv' (by omega)
    rw [show ((i.toNat : Nat) : Int) = i by omega] at this
    show h 4 i = (l[i.toNat]?).getD 0 ∧ 0 ≤ (l[i.toNat]?).getD 0 ∧ (l[i.toNat]?).getD 0 < 128
    rw [hv']
    exact ⟨this, hv v (List.mem_of_getElem? hv')⟩
  · obtain ⟨v, hv'⟩ : ∃ v, l[i.toNat]? = some v := ⟨l[i.toNat], List.getElem?_eq_getElem (by omega)⟩
    have := T.2.2 i.toNat v hv'
    rw [show ((i.toNat : Nat) : Int) = i by omega] at this
    show g 155 i = (l[i.toNat]?).getD 0
    rw [hv']
    exact this
def T4 (h h' : Hp) : Prop := ∀ c s, (c ≠ 3 ∨ s ≠ 1) → c ≠ 4 → h' c s = h c s
def TF8 (g g' : Hp) : Prop := ∀ c s, (c ≠ 121 ∨ (s ≠ 57 ∧ s ≠ 58)) → c ≠ 155 → g' c s = g c s
theorem TF.f8 {g g' : Hp} (F : TF g g') : TF8 g g' := fun c s h1 h2 => F c s (h1.elim Or.inl (fun z => Or.inr z.1)) h2
def xtK (f : Hp) : Option (Int × Hp) := if kK (f 0 1) = 0 then some (f (f 0 1) 1, f) else none
def xtP (f : Hp) : Option (Int × Hp) := if kK (f 0 11) = 8 then ob (Wy_tellSteps (f 0 11) (f 0 1) f) (fun r28 => xtK r28) else none
theorem xq_tell_eq2 (r : Int) (f : Hp) : xq_tell r f = if 0 ≤ r then if kK (f 0 11) = 8 then if kK (f 0 1) = 0 then ob (By_takeFrom (f 0 1) (f (f 0 11) 9) 0 f) (fun r24 => xtK r24) else none else none else some (r, f) := rfl
theorem xq_tellWay_eq2 (r : Int) (f : Hp) : xq_tellWay r f = if 0 ≤ r then if kK (f 0 1) = 0 then xtP (hput f (f 0 1) 1 0) else none else some (r, f) := rfl
theorem mq_tell_eq2 (d : Nat) (r : Int) (f : Hp) : mq_tell d r f = if r = 0 then ob (M_tellsAbove (d - 1) 121 0 0 (hput (hput f 121 57 0) 121 58 0)) (fun r25 => some (r25 121 57, r25)) else some (r, f) := rfl
theorem mq_tellWay_eq2 (d : Nat) (r : Int) (f : Hp) : mq_tellWay d r f = if r = 0 then ob (loopN (fun q => M_tellWay_L20 d 121 q.1 q.2) LN (0, hput f 121 57 0)) (fun e91 => some (e91 121 57, e91)) else some (r, f) := rfl
section
variable {h h' g g' : Hp} {P o8 n : Int} {G : Gm} {row : Int → Int}
theorem BX_t4 (B : BX h P G o8 n row) (F : T4 h h') : BX h' P G o8 n row := BX_vol (fun c s hv => F c s (by
    by_cases e : c = 3
    · by_cases e' : s = 1
      · rw [e, e'] at hv; exact absurd hv (by decide)
      · exact Or.inr e'
    · exact Or.inl e) (vol_ne hv (fun s => by unfold volB; simp))) B
theorem tell_ok (A : PreW h g P G o8 n row) (e56 : g 121 56 = 155) {d : Nat} (hd : 1954 ≤ d) (k : Int) : ∃ v h' g', X_tell 0 k h = some (v, h') ∧ M_tell d 121 k g = some (v, g') ∧ ∃ h1 g1, XA h h1 P G o8 n row ∧ LyF g g1 ∧ T4 h1 h' ∧ TF8 g1 g' ∧ ((h' = h1 ∧ g' = g1) ∨ ∃ wl wd, TolX h' wl wd ∧ TolM g' wl wd) := by
  obtain ⟨v, h', g', x, y, X, L, w, B', Bg', S'⟩ := found_both A (d := d - 1) (by omega) k
  have I := bx_G B'
  have W := I.1
  rw [xq_tell_eq, mq_tell_eq, if_pos (by decide), if_pos kK_121, x, y, ob_some, ob_some]
  show ∃ v' h'' g'', xq_tell v h' = _ ∧ mq_tell d v g' = _ ∧ _
  rw [xq_tell_eq2, mq_tell_eq2]
  rcases w with w | ⟨w, t, dv, ⟨t0, t1, hs, gu⟩, sh, db, X', M'⟩
  · rw [if_neg (by omega), if_neg (by omega)]
    exact ⟨v, h', g', rfl, rfl, h', g', X, L, fun _ _ _ _ => rfl, fun _ _ _ _ => rfl, Or.inl ⟨rfl, rfl⟩⟩
  · subst w
    have S := bx_sx B'
    obtain ⟨at', -, sl, s0⟩ := stW_At I t0 t1 sh
    have hr := root_in W t0 t1
    have bd := way_bd (st := stW G t dv) I t0 t1 hs sh (by omega)
    have rng := uT_in (st := stW G t dv) W dv 0 1 (ft G t) [] sh hr.1 hr.2.1 (fun v hv => absurd hv (List.not_mem_nil))
    have uo : Uok G (stW G t dv) (stW G t dv).length (some (dv, 0, 1, ft G t, [])) := ⟨Or.inr rfl, at', ⟨Int.le_refl _, by omega⟩, ⟨hr.1, hr.2.1⟩, ⟨by rw [s0, hr.2.2], fun z => by rw [hr.2.2]; exact z⟩, by show sp G (ft G (sEnt (stW G t dv) 0).1) = 0; rw [s0]; exact hs⟩
    have uc : uC G (stW G t dv) dv 0 (ft G t) 0 ≤ 1950 := by
      obtain ⟨en, E⟩ := I.2.2
      have e2 := E.2 t t0 t1
      have sw := (wf_step W t0 t1).2
      have := (uf_bd (st := stW G t dv) (lt := fun _ _ => (1 : Nat)) (em := 1) (fo := fun x => x + 1) (im := fun x => x + 1) (b1 := fun _ x => x + 2) (b2 := fun _ x y => x + y + 2) W E id 3 1 (fun _ _ => by show 1 ≤ 3; omega) (by show 1 ≤ 3; omega) (fun x => by show x + 1 ≤ x + 3; omega) (fun _ => Nat.le_refl _) (fun _ x => by show x + 2 ≤ x + 3; omega) (fun _ x y => by show x + y + 2 ≤ x + y + 3; omega) dv 0 1 (ft G t) 0 sh hr.1 hr.2.1).1 (by decide)
      rw [if_neg (by omega)] at this
      have t2 : uC G (stW G t dv) dv 0 (ft G t) 0 ≤ 3 * (en (ft G t) - ft G t).toNat + (12 * 3 + 1) * dst dv + 0 := this
      omega
    -- the class takes the text
    obtain ⟨h2, x2, t2, q2⟩ := take_ok (h := h') (o := 3) (c := 4) (o2 := 65) (c2 := 66) (a := 0) (m := 2048) (m2 := 2048) (l := uT G (stW G t dv) dv 0 (ft G t) []) (by decide) (by decide) (by decide) (by decide) (by decide) (by decide) (by decide) (sx_at S (by decide)) (sx_at S (by decide)) (by decide) (by decide) (by decide) (by decide) (by decide) X'.2.1 (by omega) (by omega) (fun v hv => by have := rng v hv; omega)
    have em : (uT G (stW G t dv) dv 0 (ft G t) []).map (fun v => v + 0) = uT G (stW G t dv) dv 0 (ft G t) [] := by simp
    rw [em] at t2
    have q2' : T4 h' h2 := fun c s a b => q2 c s a b
    have S2 := bx_sx (BX_t4 B' q2')
    -- the reference tells it
    generalize hf : hput (hput g' 121 57 0) 121 58 0 = f
    have f8 : TF8 g' f := by
      intro c s a b
      rw [← hf]
      rcases a with a | a
      · rw [hput_ne1 a, hput_ne1 a]
      · rw [hput_ne2 a.2, hput_ne2 a.1]
    have Bf : BM f G o8 n row := BM_eq Bg' (fun s hs => f8 121 s (Or.inr (by omega)) (by decide)) (fun c s hc => f8 c s (Or.inl (by omega)) (by omega))
    have Sf : SShp f := by
      intro q hq
      have : ∀ q ∈ ssL, q.1 ≠ 57 ∧ q.1 ≠ 58 := by decide
      rw [f8 121 q.1 (Or.inr (this q hq)) (by decide)]
      exact S' q hq
    have Tf : RTab f (stW G t dv) := by
      refine ⟨by rw [f8 121 48 (Or.inr (by decide)) (by decide)]; exact M'.1.1, fun s a b => ?_⟩
      rw [f8 148 _ (Or.inl (by decide)) (by decide), f8 149 _ (Or.inl (by decide)) (by decide), f8 150 _ (Or.inl (by decide)) (by decide)]
      have := M'.1.2 s a b
      exact ⟨this.1, this.2.1, this.2.2.1, fun n a b => by rw [f8 152 _ (Or.inl (by decide)) (by decide)]; exact this.2.2.2 n a b⟩
    have te : TeM f [] := ⟨by rw [← hf, hput_ne2 (by decide), hput_eq]; rfl, by rw [f8 121 56 (Or.inr (by decide)) (by decide), L 121 56 (Or.inr (by decide)) (by decide) (by decide)]; exact e56, fun i v hi => absurd hi (by simp)⟩
    have m0 : f 121 58 = 0 := by rw [← hf, hput_eq]
    have eU : uTm G (stW G t dv) 0 = uT G (stW G t dv) := by unfold uTm; rw [if_pos rfl]
    obtain ⟨f2, y2, u2, v2⟩ := (tells_spec (o8 := o8) (n := n) (row := row) W (by omega) (Int.le_refl _) 0 (d - 2) dv 0 1 (ft G t) [] f [] uo Bf Sf Tf m0 te (by
      rw [eU]
      show ((0 : Nat) : Int) + ((uT G (stW G t dv) dv 0 (ft G t) []).length : Int) < kL 155
      rw [kL_155]
      omega)).1 rfl (by show uC G (stW G t dv) dv 0 (ft G t) 0 ≤ d - 2; omega)
    rw [show d - 2 + 1 = d - 1 by omega, show off G (ft G t) = 0 by unfold off; rw [hr.2.2]; omega] at y2
    have u2' : TeM f2 (uT G (stW G t dv) dv 0 (ft G t) []) := by
      have : TeM f2 ([] ++ uTm G (stW G t dv) 0 dv 0 (ft G t) []) := u2
      rw [eU] at this
      exact this
    have y2' : M_tellsAbove (d - 1) 121 0 0 f = some f2 := y2
    rw [if_pos (Int.le_refl 0), sx_at S (show (0, 11, 59) ∈ shX by decide), if_pos kK_59, sx_at S (show (0, 1, 3) ∈ shX by decide), if_pos (show kK 3 = 0 by decide), sx_at S (show (59, 9, 65) ∈ shX by decide), x2, ob_some, if_pos rfl, y2', ob_some]
    unfold xtK
    rw [sx_at S2 (show (0, 1, 3) ∈ shX by decide), if_pos (show kK 3 = 0 by decide), t2.1, u2'.1]
    refine ⟨((uT G (stW G t dv) dv 0 (ft G t) []).length : Int), h2, f2, ?_, rfl, h', g', X, L, q2', fun c s a b => ?_, Or.inr (tol_both (by omega) rng t2 u2')⟩
    · congr 2
      omega
    · rw [v2.f8 c s a b, f8 c s a b]
end
