/-! test() of both -/
def xt5 (f : Hp) : Option (Int × Hp) := if kK (f 0 12) = 8 then if kK (f (f 0 12) 10) = 0 then ob (By_isLike (f (f 0 12) 10) (f 0 2) f) (fun r87 => some ((if r87 = 0 then 0 else 1), f)) else none else none
def xt4 (f : Hp) : Option (Int × Hp) := if kK (f 0 12) = 8 then if kK (f 0 1) = 0 then ob (By_takeFrom (f 0 1) (f (f 0 12) 10) 97 f) (fun r => xt5 r) else none else none
def xt3 (v : Int) (f : Hp) : Option (Int × Hp) := if 0 ≤ v then if kK (f 0 12) = 8 then ob (Wy_unfold (f 0 12) (f 0 15) f) (fun r => xt4 r) else none else some (v, f)
def xt2 (b : Int) (f : Hp) : Option (Int × Hp) := if b = 0 then some ((-4), f) else if kK (f 0 4) = 6 then ob (SR_putTogether (f 0 4) (f 0 15) (f 0 12) f) (fun r => xt3 r.1 r.2) else none
def xt1 (b : Int) (f : Hp) : Option (Int × Hp) := if kK (f 0 0) = 0 then xt2 b (hput f (f 0 0) 1 0) else none
theorem X_test_eq (h : Hp) : X_test 0 h = if kK 0 = 10 then if kK (h 0 4) = 6 then ob (SR_readText (h 0 4) (h 0 0) h) (fun r => xt1 r.1 r.2) else none else none := rfl
/-- what test may change -/
def XTst (h h' : Hp) : Prop := ∀ c s, (c ≠ 1 ∨ s ≠ 1) → (c ≠ 3 ∨ s ≠ 1) → c ≠ 4 → (c ≠ 10 ∨ 5 ≤ s) → c ≠ 13 → c ≠ 14 → c ≠ 15 → (c < 72 ∨ 84 < c ∨ (c = 72 ∧ 4 ≤ s ∧ s < 14) ∨ (c = 78 ∧ s ≠ 1) ∨ (c = 80 ∧ s ≠ 1)) → h' c s = h c s
def MTst (g g' : Hp) : Prop := ∀ c s, (c ≠ 121 ∨ (s ≠ 20 ∧ s ≠ 22 ∧ s ≠ 23 ∧ s ≠ 24 ∧ s ≠ 25 ∧ s ≠ 26 ∧ s ≠ 48 ∧ s ≠ 57 ∧ s ≠ 58 ∧ s ≠ 60 ∧ s ≠ 61)) → c ≠ 144 → (c < 148 ∨ 156 < c) → g' c s = g c s
theorem vol_1 {a b c s : Int} (hv : volB c s = false) (k : volB a b = true) : c ≠ a ∨ s ≠ b := by
  refine Classical.byContradiction (fun z => ?_)
  have z1 : c = a := by omega
  have z2 : s = b := by omega
  rw [z1, z2, k] at hv
  exact absurd hv (by decide)
theorem XTst.vol {h h' : Hp} (F : XTst h h') : Vol h h' := by
  intro c s hv
  have v59 := (vol_59 hv).2
  have c73 : c ≠ 73 := vol_ne hv (fun s => by unfold volB; simp)
  have c74 : c ≠ 74 := vol_ne hv (fun s => by unfold volB; simp)
  have c75 : c ≠ 75 := vol_ne hv (fun s => by unfold volB; simp)
  have c76 : c ≠ 76 := vol_ne hv (fun s => by unfold volB; simp)
  have c77 : c ≠ 77 := vol_ne hv (fun s => by unfold volB; simp)
  have c79 : c ≠ 79 := vol_ne hv (fun s => by unfold volB; simp)
  have c81 : c ≠ 81 := vol_ne hv (fun s => by unfold volB; simp)
  have c82 : c ≠ 82 := vol_ne hv (fun s => by unfold volB; simp)
  have c83 : c ≠ 83 := vol_ne hv (fun s => by unfold volB; simp)
  have c84 : c ≠ 84 := vol_ne hv (fun s => by unfold volB; simp)
  have c10 : c ≠ 10 ∨ 5 ≤ s := by
    by_cases z : c = 10
    · right
      rw [z] at hv
      unfold volB at hv
      simp at hv
      omega
    · exact Or.inl z
  have c72 : c ≠ 72 ∨ 4 ≤ s := by
    by_cases z : c = 72
    · right
      rw [z] at hv
      unfold volB at hv
      simp at hv
      omega
    · exact Or.inl z
  exact F c s (vol_1 hv (by decide)) (vol_1 hv (by decide)) (vol_ne hv (fun s => by unfold volB; simp)) c10 (vol_ne hv (fun s => by unfold volB; simp)) (vol_ne hv (fun s => by unfold volB; simp)) (vol_ne hv (fun s => by unfold volB; simp)) (by clear hv F; omega)
section
variable {h g : Hp} {P o8 n tl : Int} {G : Gm} {row tp : Int → Int}
/-- the class, once the steps are a tree -/
theorem unf_cl {st : St} (B : BX h P G o8 n row) (X : XTab h 72 st) (l0 : 0 < st.length) (l40 : st.length ≤ 40) {d : Dv} (t0 : 0 ≤ (sEnt st 0).1) (t1 : (sEnt st 0).1 < nT G) (hs : sp G (ft G (sEnt st 0).1) = 0) (A : At G st 0 st.length d 0 1 (ft G (sEnt st 0).1)) (hd : dst d + 1 ≤ st.length) : ∃ v h', xt3 0 h = some (v, h') ∧ XTst h h' ∧ h' 1 1 = h 1 1 ∧ ((v = 1 ∧ lkL n row ((uY G st d 0 (ft G (sEnt st 0).1) []).map (lbl G st))) ∨ (v = 0 ∧ ¬ lkL n row ((uY G st d 0 (ft G (sEnt st 0).1) []).map (lbl G st)))) ∧ ByT h' 3 4 2048 (((uY G st d 0 (ft G (sEnt st 0).1) []).map (lbl G st)).map (fun v => v + 97)) := by
  have I := bx_G B
  have W := I.1
  have S := bx_sx B
  have r := root_in W t0 t1
  have sh := At_Sh d 0 1 (ft G (sEnt st 0).1) A
  have bd := way_bd (st := st) I t0 t1 hs sh (by omega)
  have yin := uY_in W d 0 1 (ft G (sEnt st 0).1) [] r.1 r.2.1 r.2.2 A (fun e he => absurd he (List.not_mem_nil))
  have WS : WyS h 72 := ⟨sx_at S (by decide), sx_at S (by decide), sx_at S (by decide), sx_at S (by decide), sx_at S (by decide)⟩
  have WT : WyT h 72 := ⟨sx_at S (by decide), sx_at S (by decide), sx_at S (by decide), sx_at S (by decide), sx_at S (by decide), sx_at S (by decide), sx_at S (by decide)⟩
  have XB : XTb h 72 st := ⟨X.1, fun s a b => ⟨(X.2.1 s a b).1, (X.2.1 s a b).2.1, (X.2.1 s a b).2.2.1⟩, X.2.2⟩
  obtain ⟨f, x, FUf, U⟩ := Wy_unfold_ok (w := 72) (P := P) (o8 := o8) (n := n) (row := row) ⟨Or.inr rfl, WS, WT, B, XB, by omega⟩ (fun s a b => (X.2.1 s a b).2.2.2) t0 t1 hs l0 rfl A bd.1 bd.2.1
  have Bf := BX_vol (FUf.vol (Or.inr rfl)) B
  have Sf := bx_sx Bf
  generalize hl : (uY G st d 0 (ft G (sEnt st 0).1) []).map (lbl G st) = l
  have LT : ByT f 80 81 576 l := by rw [← hl]; exact U.2.1.1
  have ll : l.length ≤ 480 := by rw [← hl, List.length_map]; have := bd.2.2.2.1; omega
  have lv : ∀ v ∈ l, 0 ≤ v ∧ v < 26 := by
    intro v hv
    rw [← hl] at hv
    obtain ⟨e, he, rfl⟩ := List.mem_map.mp hv
    exact yin e he
  obtain ⟨f2, x2, t2, q2⟩ := take_ok (h := f) (o := 3) (c := 4) (o2 := 80) (c2 := 81) (a := 97) (m := 2048) (m2 := 576) (l := l) (by decide) (by decide) (by decide) (by decide) (by decide) (by decide) (by decide) (sx_at Sf (by decide)) (sx_at Sf (by decide)) (by decide) (by decide) (by decide) (by decide) (by decide) LT (by omega) (by omega) (fun v hv => by have := lv v hv; omega)
  have q2' : T4 f f2 := fun c s a b => q2 c s a b
  have B2 := BX_t4 Bf q2'
  have S2 := bx_sx B2
  have LT2 : ByT f2 80 81 576 l := ⟨by rw [q2 80 1 (Or.inl (by decide)) (by decide)]; exact LT.1, fun i v a b => by rw [q2 81 _ (Or.inl (by decide)) (by decide)]; exact LT.2 i v a b⟩
  obtain ⟨v, y, p⟩ := like_cl (bx_L B2) (sx_at S2 (by decide)) LT2 (by omega) lv
  refine ⟨v, f2, ?_, ?_, ?_, p, t2⟩
  · unfold xt3
    rw [if_pos (Int.le_refl 0), sx_at S (show (0, 12, 72) ∈ shX by decide), if_pos (show kK 72 = 8 by decide), bx_15 B, x, ob_some]
    unfold xt4
    rw [sx_at Sf (show (0, 12, 72) ∈ shX by decide), if_pos (show kK 72 = 8 by decide), sx_at Sf (show (0, 1, 3) ∈ shX by decide), if_pos (show kK 3 = 0 by decide), sx_at Sf (show (72, 10, 80) ∈ shX by decide), x2, ob_some]
    unfold xt5
    rw [sx_at S2 (show (0, 12, 72) ∈ shX by decide), if_pos (show kK 72 = 8 by decide), sx_at S2 (show (72, 10, 80) ∈ shX by decide), if_pos (show kK 80 = 0 by decide), sx_at S2 (show (0, 2, 5) ∈ shX by decide), y, ob_some]
    rcases p with z | z
    · rw [z.1, if_neg (by decide)]
    · rw [z.1, if_pos rfl]
  · intro c s h1 h2 h3 h4 h5 h6 h7 h8
    rw [q2 c s h2 h3]
    exact FUf c s (by omega) (by omega) (by omega) (by omega) (by omega) (by omega) (by omega) (by omega) (by omega)
  · rw [q2 1 1 (Or.inl (by decide)) (by decide)]
    exact FUf 1 1 (Or.inl (by decide)) (by decide) (Or.inl (by decide)) (by decide) (Or.inl (by decide)) (by decide) (by decide) (by decide) (by decide)
/-- the reference, once the steps are a tree -/
theorem unf_rf {st : St} (I : GIn G) (B : BM g G o8 n row) (S : SShp g) (T : RTab g st) (e56 : g 121 56 = 155) (l0 : 0 < st.length) (l40 : st.length ≤ 40) {d : Dv} (t0 : 0 ≤ (sEnt st 0).1) (t1 : (sEnt st 0).1 < nT G) (hs : sp G (ft G (sEnt st 0).1) = 0) (A : At G st 0 st.length d 0 1 (ft G (sEnt st 0).1)) (hd : dst d + 1 ≤ st.length) {e : Nat} (he : 1954 ≤ e) : ∃ v g', mtq3 e g = some (v, g') ∧ TF8 g g' ∧ ((v = 1 ∧ lkL n row ((uY G st d 0 (ft G (sEnt st 0).1) []).map (lbl G st))) ∨ (v = 0 ∧ ¬ lkL n row ((uY G st d 0 (ft G (sEnt st 0).1) []).map (lbl G st)))) ∧ TeM g' (((uY G st d 0 (ft G (sEnt st 0).1) []).map (lbl G st)).map (fun v => v + 97)) := by
  have W := I.1
  have r := root_in W t0 t1
  have sh := At_Sh d 0 1 (ft G (sEnt st 0).1) A
  have bd := way_bd (st := st) I t0 t1 hs sh (by omega)
  have eY := uTl_eq W d 0 1 (ft G (sEnt st 0).1) [] r.1 r.2.1 r.2.2 A
  have eM : (uY G st d 0 (ft G (sEnt st 0).1) []).map (fun e => 97 + lbl G st e) = ((uY G st d 0 (ft G (sEnt st 0).1) []).map (lbl G st)).map (fun v => v + 97) := by
    rw [List.map_map]
    congr 1
    funext e
    show 97 + lbl G st e = lbl G st e + 97
    omega
  rw [eM] at eY
  generalize hl : (uY G st d 0 (ft G (sEnt st 0).1) []).map (lbl G st) = l at eY
  have ll : l.length ≤ 480 := by rw [← hl, List.length_map]; have := bd.2.2.2.1; omega
  have uo : Uok G st st.length (some (d, 0, 1, ft G (sEnt st 0).1, [])) := ⟨Or.inr rfl, A, ⟨Int.le_refl _, by omega⟩, ⟨r.1, r.2.1⟩, ⟨r.2.2.symm, fun z => by rw [r.2.2]; exact z⟩, hs⟩
  have uc : uC G st d 0 (ft G (sEnt st 0).1) 0 ≤ 1950 := by
    obtain ⟨en, E⟩ := I.2.2
    have e2 := E.2 _ t0 t1
    have sw := (wf_step W t0 t1).2
    have := (uf_bd (st := st) (lt := fun _ _ => (1 : Nat)) (em := 1) (fo := fun x => x + 1) (im := fun x => x + 1) (b1 := fun _ x => x + 2) (b2 := fun _ x y => x + y + 2) W E id 3 1 (fun _ _ => by show 1 ≤ 3; omega) (by show 1 ≤ 3; omega) (fun x => by show x + 1 ≤ x + 3; omega) (fun _ => Nat.le_refl _) (fun _ x => by show x + 2 ≤ x + 3; omega) (fun _ x y => by show x + y + 2 ≤ x + y + 3; omega) d 0 1 (ft G (sEnt st 0).1) 0 sh r.1 r.2.1).1 (by decide)
    rw [if_neg (by omega)] at this
    have t2 : uC G st d 0 (ft G (sEnt st 0).1) 0 ≤ 3 * (en (ft G (sEnt st 0).1) - ft G (sEnt st 0).1).toNat + (12 * 3 + 1) * dst d + 0 := this
    omega
  unfold mtq3
  generalize hf : hput (hput g 121 57 0) 121 58 1 = f
  have f8 : TF8 g f := by
    intro c s a b
    rw [← hf]
    rcases a with a | a
    · rw [hput_ne1 a, hput_ne1 a]
    · rw [hput_ne2 a.2, hput_ne2 a.1]
  have Bf : BM f G o8 n row := BM_eq B (fun s hs => f8 121 s (Or.inr (by omega)) (by decide)) (fun c s hc => f8 c s (Or.inl (by omega)) (by omega))
  have Sf : SShp f := by
    intro q hq
    have : ∀ q ∈ ssL, q.1 ≠ 57 ∧ q.1 ≠ 58 := by decide
    rw [f8 121 q.1 (Or.inr (this q hq)) (by decide)]
    exact S q hq
  have Tf : RTab f st := by
    refine ⟨by rw [f8 121 48 (Or.inr (by decide)) (by decide)]; exact T.1, fun s a b => ?_⟩
    rw [f8 148 _ (Or.inl (by decide)) (by decide), f8 149 _ (Or.inl (by decide)) (by decide), f8 150 _ (Or.inl (by decide)) (by decide)]
    have := T.2 s a b
    exact ⟨this.1, this.2.1, this.2.2.1, fun n a b => by rw [f8 152 _ (Or.inl (by decide)) (by decide)]; exact this.2.2.2 n a b⟩
  have te : TeM f [] := ⟨by rw [← hf, hput_ne2 (by decide), hput_eq]; rfl, by rw [f8 121 56 (Or.inr (by decide)) (by decide)]; exact e56, fun i v hi => absurd hi (by simp)⟩
  have m0 : f 121 58 = 1 := by rw [← hf, hput_eq]
  have eU : uTm G st 1 = uTl G st := by unfold uTm; rw [if_neg (by decide)]
  have eY' : uTl G st d 0 (ft G (sEnt st 0).1) [] = l.map (fun v => v + 97) := eY
  obtain ⟨f2, y2, u2, v2⟩ := (tells_spec (o8 := o8) (n := n) (row := row) W (by omega) (Int.le_refl _) 1 (e - 2) d 0 1 (ft G (sEnt st 0).1) [] f [] uo Bf Sf Tf m0 te (by
    rw [eU]
    show ((0 : Nat) : Int) + ((uTl G st d 0 (ft G (sEnt st 0).1) []).length : Int) < kL 155
    rw [kL_155, eY', List.length_map]
    omega)).1 rfl (by show uC G st d 0 (ft G (sEnt st 0).1) 0 ≤ e - 2; omega)
  rw [show e - 2 + 1 = e - 1 by omega, show off G (ft G (sEnt st 0).1) = 0 by unfold off; rw [r.2.2]; omega] at y2
  have u2' : TeM f2 (l.map (fun v => v + 97)) := by
    have : TeM f2 ([] ++ uTm G st 1 d 0 (ft G (sEnt st 0).1) []) := u2
    rw [eU] at this
    rw [← eY']
    exact this
  have y2' : M_tellsAbove (e - 1) 121 0 0 f = some f2 := y2
  have B2 : BM f2 G o8 n row := BM_tf Bf v2
  obtain ⟨v, z, p⟩ := told_rf B2 u2' (by omega)
  rw [y2', ob_some]
  refine ⟨v, f2, ?_, fun c s a b => ?_, p, u2'⟩
  · unfold mtq4
    rw [z, ob_some]
    rcases p with w | w
    · rw [w.1, if_neg (by decide)]
    · rw [w.1, if_pos rfl]
  · rw [v2.f8 c s a b, f8 c s a b]
end
