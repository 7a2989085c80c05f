/-! the reference: a way is laid by its number -/
theorem Pick_congr {f g : Int → Nat} {lo hi : Int} {k k' : Nat} {x : Int} (e : ∀ y, lo ≤ y → y ≤ hi → f y = g y) (Pk : Pick f lo hi k x k') : Pick g lo hi k x k' := by
  obtain ⟨P1, P2, P3, P4⟩ := Pk
  exact ⟨P1, P2, by rw [P3, sI_congr (fun y a b => e y a (by omega))], by rw [← e x P1 P2]; exact P4⟩
section
variable {h h' g : Hp} {o8 n : Int} {G : Gm} {row row' : Int → Int} {ou : Int → Bool}
theorem Nth_row (I : GIn G) (hr : ∀ i, 0 ≤ i → i < n → row' i = row i) : ∀ (d : Dv) (half node i j p q : Int) (k : Nat), itm G half node i j p q → j ≤ n → k < wW G ou row half node i j p q → Nth G ou row d half node i j p q k → Nth G ou row' d half node i j p q k
  | .zero, half, node, i, j, p, q, k, h, hj, hk, N => N
  | .var _, _, _, _, _, _, _, _, _, _, _, N => False.elim N
  | .neg d, half, node, i, j, p, q, k, h, hj, hk, N => by
    obtain ⟨rfl, k0, m, hl, n'⟩ := N
    have hh := (half_item h).1
    exact ⟨rfl, k0, m, by rw [wW_row I.1 hr hh hj]; exact hl, Nth_row I hr d 0 node i j p q k hh hj hl n'⟩
  | .intMul t d, half, node, i, j, p, q, k, h, hj, hk, N => by
    obtain ⟨k4, ep, eq, k', P, t0, t1, hg, hs, f1, hk', n', hfr, g⟩ := inv_place I h N
    have h2 : half ≠ 2 := by have := h.1; omega
    refine Or.inr ⟨h2, k4, k', Pick_congr ?_ P, Nth_row I hr d 1 (ft G t) i j (-1) (-1) k' f1 hj hk' n'⟩
    intro y y0 y1
    unfold fH
    cases hgo : goB G ou y (lb G node) 0
    · rw [if_neg Bool.false_ne_true, if_neg Bool.false_ne_true]
    · rw [if_pos rfl, if_pos rfl, wW_row I.1 hr (place_item I.1 h k4 y0 (by omega) (goB_spec hgo).1).1 hj]
  | .natMul m d, half, node, i, j, p, q, k, h, hj, hk, N => by
    obtain ⟨rfl⟩ := N.1
    obtain ⟨k0, c2', f1, hk', n', -, g⟩ := inv_unary I h hk N
    exact ⟨rfl, k0, c2', Nth_row I hr d 1 (c1 G node) i j p q k f1 hj hk' n'⟩
  | .add x y, half, node, i, j, p, q, k, h, hj, hk, N => by
    obtain ⟨rfl⟩ := N.1
    obtain ⟨k0, c2', m, k1, P, m0, m1, -, -, f1, f2, r2, r3, nx, ny, -, -, g⟩ := inv_split I h N
    have e2 := wW_row (ou := ou) I.1 hr f2 hj
    refine ⟨rfl, k0, c2', m, k1, Pick_congr ?_ P, ?_, ?_⟩
    · intro z z0 z1
      unfold fS wSplit
      by_cases hc : ¬ (sp G (c1 G node) = 1 ∧ z < q) ∧ ¬ (sp G (c2 G node) = 1 ∧ p < z) ∧ nd G (c1 G node) ≤ cov i z (gp (sp G (c1 G node)) p) (gp (sp G (c1 G node)) q) ∧ nd G (c2 G node) ≤ cov z j (gp (sp G (c2 G node)) p) (gp (sp G (c2 G node)) q)
      · obtain ⟨u1, u2, -⟩ := split_items I.1 h k0 c2' z0 z1 hc.1 hc.2.1
        rw [if_pos hc, if_pos hc, wW_row I.1 hr u1 (by omega), wW_row I.1 hr u2 hj]
      · rw [if_neg hc, if_neg hc]
    · rw [e2]
      exact Nth_row I hr x _ _ _ _ _ _ _ f1 (by omega) r2 nx
    · rw [e2]
      exact Nth_row I hr y _ _ _ _ _ _ _ f2 hj r3 ny
  | .sub (.intMul t' o') d, half, node, i, j, p, q, k, h, hj, hk, N => by
    obtain ⟨rfl⟩ := N.1
    obtain ⟨k0, m1, hb, t, k1, a, k2, c, k3, o, ex, P1, P2, P3, t0, t1, hg, hs, f1, f2, r2, r3, no, n', -, -, g⟩ := inv_guest I h N
    obtain ⟨e1, e2⟩ : t' = t ∧ o' = o := by
      injection ex with a b
      exact ⟨a, b⟩
    subst e1 e2
    have W := I.1
    have hh := (half_item h).1
    have sp' := itm_span h
    have eb : bare G ou row' node i j p q = bare G ou row node i j p q := by
      unfold bare
      rw [wW_row W hr hh hj]
    have eC : ∀ t a c, 0 ≤ t → t < nT G → sp G (ft G t) = 1 → i ≤ a → a ≤ (if p = -1 then j else p) → (if p = -1 then a else q) ≤ c → c ≤ j → fC G ou row node i j p q t a c = fC G ou row' node i j p q t a c := by
      intro t a c t0 t1 hs a0 a1 c0 c1'
      obtain ⟨u1, u2, -⟩ := around_items W h t0 t1 hs a0 a1 c0 c1'
      unfold fC wAround
      rw [wW_row W hr u1 (by omega), wW_row W hr u2 hj]
    have eA : ∀ t a, 0 ≤ t → t < nT G → sp G (ft G t) = 1 → i ≤ a → a ≤ (if p = -1 then j else p) → fA G ou row node i j p q t a = fA G ou row' node i j p q t a := by
      intro t a t0 t1 hs a0 a1
      unfold fA
      exact sI_congr (fun c c0 c1' => eC t a c t0 t1 hs a0 a1 c0 c1')
    have ew := wW_row (ou := ou) W hr f1 (show c ≤ n by have := P3.2.1; omega)
    refine ⟨rfl, k0, m1, by rw [eb]; exact hb, t', k1, a, k2, c, k3, ?_, Pick_congr (fun y y0 y1 => eA t' y t0 t1 hs y0 y1) P2, Pick_congr (fun y y0 y1 => eC t' a y t0 t1 hs P2.1 P2.2.1 y0 y1) P3, Or.inl ⟨rfl, rfl, ?_⟩, ?_⟩
    · rw [eb]
      refine Pick_congr ?_ P1
      intro y y0 y1
      unfold fT
      cases hgo : goB G ou y (lb G node) 1
      · rw [if_neg Bool.false_ne_true, if_neg Bool.false_ne_true]
      · rw [if_pos rfl, if_pos rfl]
        exact sI_congr (fun a a0 a1 => eA y a y0 (by omega) (goB_spec hgo).1 a0 a1)
    · rw [ew]
      exact Nth_row I hr o' _ _ _ _ _ _ _ f2 hj r2 no
    · rw [ew]
      exact Nth_row I hr d _ _ _ _ _ _ _ f1 (by have := P3.2.1; omega) r3 n'
  | .sub .zero d, half, node, i, j, p, q, k, h, hj, hk, N => by
    obtain ⟨-, -, -, -, t, k1, a, k2, c, k3, P1, P2, P3, nx, n⟩ := N
    exact absurd rfl nx.1
  | .sub (.var _) d, half, node, i, j, p, q, k, h, hj, hk, N => by
    obtain ⟨-, -, -, -, t, k1, a, k2, c, k3, P1, P2, P3, nx, n⟩ := N
    exact False.elim nx
  | .sub (.neg _) d, half, node, i, j, p, q, k, h, hj, hk, N => by
    obtain ⟨-, -, -, -, t, k1, a, k2, c, k3, P1, P2, P3, nx, n⟩ := N
    exact absurd nx.1 (by decide)
  | .sub (.natMul _ _) d, half, node, i, j, p, q, k, h, hj, hk, N => by
    obtain ⟨-, -, -, -, t, k1, a, k2, c, k3, P1, P2, P3, nx, n⟩ := N
    exact absurd nx.1 (by decide)
  | .sub (.add _ _) d, half, node, i, j, p, q, k, h, hj, hk, N => by
    obtain ⟨-, -, -, -, t, k1, a, k2, c, k3, P1, P2, P3, nx, n⟩ := N
    exact absurd nx.1 (by decide)
  | .sub (.sub _ _) d, half, node, i, j, p, q, k, h, hj, hk, N => by
    obtain ⟨-, -, -, -, t, k1, a, k2, c, k3, P1, P2, P3, nx, n⟩ := N
    exact absurd nx.1 (by decide)
theorem way_row (I : GIn G) (n0 : 0 ≤ n) (n8 : n ≤ 8) (hr : ∀ i, 0 ≤ i → i < n → row' i = row i) {k : Nat} {t : Int} {d : Dv} (A : WayAt G ou row n k t d) : WayAt G ou row' n k t d := by
  obtain ⟨k', Pk, N, -, hkw, t0, t1, hg, hi, -⟩ := way_in I n0 n8 A
  refine ⟨A.1, k', Pick_congr ?_ Pk, Nth_row I hr d _ _ _ _ _ _ _ hi (Int.le_refl _) hkw N⟩
  intro y y0 y1
  unfold fH
  cases hgo : goB G ou y (lb G 0) 0
  · rw [if_neg Bool.false_ne_true, if_neg Bool.false_ne_true]
  · rw [if_pos rfl, if_pos rfl, wW_row I.1 hr (root_item I.1 (i := 0) (j := n) y0 (by omega) (goB_spec hgo).1 (by decide) n0 n8) (Int.le_refl _)]
/-- what the laying of a way may change -/
def LyF (h h' : Hp) : Prop := ∀ c s, (c ≠ 121 ∨ (s ≠ 34 ∧ s ≠ 35 ∧ s ≠ 48)) → c ≠ 138 → (c < 144 ∨ 154 < c) → h' c s = h c s
theorem LyF.tr {a b c : Hp} (x : LyF a b) (y : LyF b c) : LyF a c := fun i s h1 h2 h3 => by rw [y i s h1 h2 h3, x i s h1 h2 h3]
theorem Lk.ly (F : Lk h h') : LyF h h' := fun c s h1 h2 h3 => F c s (h1.elim Or.inl (fun z => Or.inr ⟨z.1, z.2.1⟩)) h2 (by omega) (by omega) (by omega) (by omega)
theorem F5.ly (F : F5 h h') : LyF h h' := fun c s h1 h2 h3 => F c s (h1.elim Or.inl (fun z => Or.inr z.2.2)) (by omega) (by omega) (by omega) (by omega) (by omega) (by omega) (by omega) (by omega)
/-- the reference holds the way t, d -/
def MWay (h : Hp) (G : Gm) (n t : Int) (d : Dv) : Prop := RTab h (stW G t d) ∧ yl G d 0 (ft G t) [] 1 = Ents (h 153) (h 154) 0 n ∧ (∀ m, 0 ≤ m → m < n → 0 ≤ h 153 m ∧ h 153 m < ((stW G t d).length : Int)) ∧ ∀ s : Int, 0 ≤ s → s < ((stW G t d).length : Int) → (h 151 s = -1 ∧ ∀ m, 0 ≤ m → m < n → ¬ (h 153 m = s ∧ h 154 m = h 133 (sEnt (stW G t d) s).1)) ∨ ∃ m, (0 ≤ m ∧ m < n) ∧ h 153 m = s ∧ h 154 m = h 133 (sEnt (stW G t d) s).1 ∧ h 151 s = m
def lwN (d : Nat) (k t s' : Int) (f : Hp) : Option (Int × Hp) := ob (M_root 121 t f) (fun r121 => ob (M_lays (d - 1) 121 s' 1 r121 0 (f 121 34) ((-1)) ((-1)) k f) (fun r133 => some (0, r133)))
def lwQ (d : Nat) (z : (Int × Int × Hp) ⊕ (Hp)) : Option (Int × Hp) :=
  match z with
  | .inl e108 => ob (M_newStep 121 e108.2.1 ((-1)) ((-1)) e108.2.2) (fun r114 => lwN d e108.1 e108.2.1 r114.1 r114.2)
  | .inr e151 => some ((-1), e151)
def lwB (d : Nat) (k w : Int) (f : Hp) : Option (Int × Hp) := if w ≤ 1000000000000000 then if k < w then ob (loopN (fun q => M_laysWay_L53 d 121 q.1 q.2.1 q.2.2) LN (k, 0, hput f 121 48 0)) (fun z => lwQ d z) else some ((-1), f) else some ((-3), f)
def lwA (d : Nat) (k : Int) (f : Hp) : Option (Int × Hp) := ob (M_waysOfAll (d - 1) 121 (f 121 34) f) (fun r19 => lwB d k r19.1 r19.2)
theorem laysWay_eq (d : Nat) (k : Int) (h : Hp) : M_laysWay d 121 k h = if 0 ≤ k then if kK 121 = 11 then ob (M_looksAt 121 0 h) (fun r11 => lwA d k r11) else none else some ((-2), h) := rfl
theorem M_laysWay_ok (B : BM h G o8 n row) (S : SShp h) {d : Nat} (hd : 1953 ≤ d) (k : Int) :
    (k < 0 ∧ M_laysWay d 121 k h = some (-2, h)) ∨ (0 ≤ k ∧ 1000000000000000 < capN (stN G (ouB o8) row n) ∧ ∃ h', M_laysWay d 121 k h = some (-3, h') ∧ LyF h h') ∨ (0 ≤ k ∧ capN (stN G (ouB o8) row n) ≤ 1000000000000000 ∧ capN (stN G (ouB o8) row n) ≤ k ∧ ∃ h', M_laysWay d 121 k h = some (-1, h') ∧ LyF h h') ∨ (0 ≤ k ∧ capN (stN G (ouB o8) row n) ≤ 1000000000000000 ∧ k < capN (stN G (ouB o8) row n) ∧ k ≤ 1000000000000000 ∧ ∀ t dv, WayAt G (ouB o8) row n k.toNat t dv → ∃ h', M_laysWay d 121 k h = some (0, h') ∧ LyF h h' ∧ MWay h' G n t dv) := by
  have W := bm_W B
  have I : GIn G := B.2.2.2.1
  have nt := wf_nt W
  have nn := wf_nn W
  obtain ⟨l1, l2, l3, l4⟩ := bm_L B
  by_cases k0 : 0 ≤ k
  · obtain ⟨g, x, F, K⟩ := M_look0 B
    obtain ⟨g2, x2, D2, K2⟩ := M_waysOfAll_ok W K (d := d - 1) (by omega) l2 (Int.le_refl _) l3
    have F2 : LyF h g2 := F.ly.tr (Lk.of144 D2).ly
    have go : M_laysWay d 121 k h = lwB d k (capN (stN G (ouB o8) row n)) g2 := by
      rw [laysWay_eq, if_pos k0, if_pos kK_121, x, ob_some]
      unfold lwA
      rw [K.2.2.1, x2, ob_some]
    rw [go]
    unfold lwB
    by_cases h3 : capN (stN G (ouB o8) row n) ≤ 1000000000000000
    · rw [if_pos h3]
      by_cases h1 : k < capN (stN G (ouB o8) row n)
      · refine Or.inr (Or.inr (Or.inr ⟨k0, h3, h1, by omega, ?_⟩))
        intro t dv A
        have A' : WayAt G (ouB o8) (g2 138) n k.toNat t dv := way_row I l2 l3 K2.2.2.2 A
        obtain ⟨k', Pk, N, hk', hkw, t0, t1, hg, hi, db, ds, sh⟩ := way_in I l2 l3 A'
        have hr := root_in W t0 t1
        obtain ⟨P1, P2, P3, P4⟩ := Pk
        have st := wf_step W (t := 0) (by decide) (by omega)
        have fi := ft_in W (t := 1) (by decide) (by omega)
        have f0 := (wf_ft W).1
        rw [show (0 : Int) + 1 = 1 by decide] at st
        generalize hf : hput g2 121 48 0 = f
        have F5f : F5 g2 f := by
          rw [← hf]
          intro c s h1 _ _ _ _ _ _ _ _
          rcases h1 with z | z
          · exact hput_ne1 z
          · exact hput_ne2 z
        have f138 : f 138 = g2 138 := by rw [← hf]; funext s; exact hput_ne1 (by decide)
        have Rf := RepM_5 K2.1 F5f
        have Mf : Memo f G (ouB o8) (g2 138) := Memo_5 F5f (fun i => by rw [← hf]; exact hput_ne1 (by decide)) K2.2.1
        have f48 : f 121 48 = 0 := by rw [← hf, hput_eq]
        have lp : ∃ g', J4 f G (ouB o8) (g2 138) g' ∧ loopN (fun q => M_laysWay_L53 d 121 q.1 q.2.1 q.2.2) LN (k, 0, f) = some (.inl ((k' : Int), t, g')) := by
          have stp : ∀ (y : Int) (κ : Nat) (g : Hp), 0 ≤ y → y < nT G → J4 f G (ouB o8) (g2 138) g → κ ≤ 1000000000000000 → ∃ g', J4 f G (ouB o8) (g2 138) g' ∧ M_laysWay_L53 d 121 κ y g = M_laysWay_j98 d 121 κ y (capN (fH G (ouB o8) (g2 138) (lb G 0) 0 n y)) g' := by
            intro y κ g y0 y1 jg hκ
            have Rg := RepM_144 Rf jg.1
            have e6 : g 121 6 = 124 := ms_at Rg.1 (by decide)
            have e0 : g 124 0 = lb G 0 := (Rg.2.2.2.2.1 0 (by decide) (by omega)).2.1
            have e34 : g 121 34 = n := by rw [jg.1 121 34 (by decide), F5f.c121 (by decide)]; exact K2.2.2.1
            unfold M_laysWay_L53 M_start
            rw [if_pos kK_121, Rg.2.1, if_neg (by omega), if_pos kK_121, if_neg (by omega), e6, if_pos ⟨kK_124, by decide, by rw [kL_124]; decide⟩, ob_some, e0, M_mayGo_ok Rg W y0 y1, ob_some]
            unfold fH
            cases hgo : goB G (ouB o8) y (lb G 0) 0
            · rw [if_pos (by decide), if_neg Bool.false_ne_true]
              exact ⟨g, jg, rfl⟩
            · have hiy := root_item W (i := 0) (j := n) y0 y1 (goB_spec hgo).1 (by decide) l2 l3
              obtain ⟨g', x', D', M'⟩ := M_waysOf_ok W (d := d - 1) hiy (by have := fr_max W hiy; omega) Rg jg.2
              rw [if_neg (by decide), M_root_ok Rg W y0 y1, ob_some, e34, x', ob_some, if_pos rfl]
              exact ⟨g', ⟨jg.1.tr D', M'⟩, rfl⟩
          obtain ⟨r, x, g', jg, er⟩ := walk_loop (body := fun q => M_laysWay_L53 d 121 q.1 q.2.1 q.2.2) (f := fH G (ouB o8) (g2 138) (lb G 0) 0 n) (lo := 0) (y1 := t) (k := k.toNat) (J4 f G (ouB o8) (g2 138)) (fun r => ∃ g', J4 f G (ouB o8) (g2 138) g' ∧ r = .inl ((k' : Int), t, g')) ⟨D144.rf, Mf⟩ (by omega) P1 (by omega) (by
            intro y κ g y0 y1 jg hf' hκ
            obtain ⟨g', j1, e1⟩ := stp y κ g y0 (by omega) jg (by omega)
            refine ⟨g', ?_, j1⟩
            show M_laysWay_L53 d 121 κ y g = _
            rw [e1]
            unfold M_laysWay_j98
            rw [if_pos ((cap_le (show κ ≤ 1000000000000000 by omega)).mpr hf'), cap_sub (show κ ≤ 1000000000000000 by omega) hf', show w32 (y + 1) = y + 1 by unfold w32; omega]) (by
            intro g jg
            rw [show k.toNat - sI (fH G (ouB o8) (g2 138) (lb G 0) 0 n) 0 (t - 1) = k' by omega]
            obtain ⟨g', j1, e1⟩ := stp t k' g P1 (by omega) jg (by omega)
            refine ⟨_, ?_, g', j1, rfl⟩
            show M_laysWay_L53 d 121 k' t g = _
            rw [e1]
            unfold M_laysWay_j98
            rw [if_neg (fun z => absurd ((cap_le (show k' ≤ 1000000000000000 by omega)).mp z) (by omega))])
          rw [show ((k.toNat : Nat) : Int) = k by omega] at x
          exact ⟨g', jg, by rw [x, er]⟩
        obtain ⟨g3, J3, x3⟩ := lp
        have R3 := RepM_144 Rf J3.1
        have S2 : SShp g2 := by
          intro q hq
          have : ∀ q ∈ ssL, q.1 ≠ 34 ∧ q.1 ≠ 35 ∧ q.1 ≠ 48 := by decide
          rw [F2 121 q.1 (Or.inr (this q hq)) (by decide) (by decide)]
          exact S q hq
        have S3 : SShp g3 := SShp_5 J3.1.f5 (SShp_5 F5f S2)
        have T3 : RTab g3 [] := ⟨by rw [J3.1 121 48 (by decide)]; exact f48, fun s s0 s1 => by have : s < ((0 : Nat) : Int) := s1; omega⟩
        obtain ⟨g4, x4, F4, T4, e4, e5, e6⟩ := M_newStep_ok (t := t) (into := -1) (n := -1) S3 T3 (fun _ _ _ => rfl) (by decide) (Or.inl rfl)
        have R4 := RepM_5 R3 F4
        have M4 : Memo g4 G (ouB o8) (g2 138) := Memo_5 F4 (fun i => (e4 i).1) J3.2
        have S4 := SShp_5 F4 S3
        have g34 : g4 121 34 = n := by rw [F4.c121 (by decide), J3.1 121 34 (by decide), F5f.c121 (by decide)]; exact K2.2.2.1
        have fm := fr_max W hi
        obtain ⟨g5, x5, L5, Y5⟩ := lays_spec (ou := ouB o8) (row := g2 138) W I (d - 1) dv (ft G t) 0 n (-1) (-1) k' 0 [(t, -1, -1)] g4 hi (by omega) (by omega) hkw N ⟨R4, M4, S4, T4, by
          intro s' n' hs'
          have hs'' : (1 : Int) ≤ s' := hs'
          show (if (-1 : Int) = s' ∧ (-1 : Int) = n' then _ else (-1 : Int)) = -1
          rw [if_neg (by omega)], by show 1 + dst dv ≤ 128; omega, Int.le_refl _, by show (0 : Int) < ((1 : Nat) : Int); decide, by rw [hr.2.2]; rfl⟩
        rw [if_pos h1, x3, ob_some]
        refine ⟨g5, ?_, ?_, ?_⟩
        · show (ob (M_newStep 121 t ((-1)) ((-1)) g3) (fun r114 => lwN d k' t r114.1 r114.2)) = _
          rw [x4, ob_some]
          show lwN d k' t ((([] : St).length : Nat) : Int) g4 = _
          unfold lwN M_lays
          rw [M_root_ok R4 W t0 t1, ob_some, g34]
          show (ob (M_lays_G (d - 1) 0 [121, 0, 1, ft G t, 0, n, -1, -1, (k' : Int)] g4) (fun r133 => some (0, r133))) = _
          rw [x5, ob_some]
        · exact ((F2.tr F5f.ly).tr (J3.1.f5.ly)).tr ((F4.ly).tr L5.1.1.ly)
        · have wr : ∀ m, Wr 0 n (-1) (-1) m ↔ 0 ≤ m ∧ m < n := by intro m; unfold Wr; omega
          have c133 : ∀ x, g5 133 x = g4 133 x := fun x => L5.1.1.c133 x
          refine ⟨L5.2.2, ?_, ?_, ?_⟩
          · have := Y5 (g5 153) (g5 154) (fun _ _ => ⟨rfl, rfl⟩)
            rw [Ents_0] at this
            exact this
          · intro m m0 m1
            exact L5.1.2.2.1 m ((wr m).mpr ⟨m0, m1⟩)
          · intro s s0 s1
            rcases L5.1.2.2.2.2.2 s s0 s1 with ⟨q1, q2⟩ | ⟨m, q1, q2, q3, q4⟩
            · left
              refine ⟨?_, fun m m0 m1 => ?_⟩
              · rw [q1]
                by_cases hs : s < (([(t, -1, -1)] : St).length : Int)
                · rw [if_pos hs]
                  have hs' : s < ((1 : Nat) : Int) := hs
                  rw [show s = 0 by omega]
                  exact e6
                · rw [if_neg hs]
              · rw [c133]
                exact q2 m ((wr m).mpr ⟨m0, m1⟩)
            · right
              exact ⟨m, (wr m).mp q1, q2, by rw [c133]; exact q3, q4⟩
      · rw [if_neg h1]
        exact Or.inr (Or.inr (Or.inl ⟨k0, h3, by omega, g2, rfl, F2⟩))
    · rw [if_neg h3]
      exact Or.inr (Or.inl ⟨k0, by omega, g2, rfl, F2⟩)
  · left
    rw [laysWay_eq, if_neg k0]
    exact ⟨by omega, rfl⟩
end
