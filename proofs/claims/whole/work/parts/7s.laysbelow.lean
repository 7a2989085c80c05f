/-! the reference: what is laid below a node -/
def lhN (R : Nat → List Int → Hp → Option (Hp)) (i j k t s' : Int) (f : Hp) : Option (Hp) :=
  ob (M_root 121 t f) (fun r90 =>
    ob (R 0 [121, s', 1, r90, i, j, (-1), (-1), k] f) (fun r100 =>
      some r100))
def lhK (R : Nat → List Int → Hp → Option (Hp)) (s node i j k t : Int) (f : Hp) : Option (Hp) :=
  if kK (f 121 49) = 21 ∧ (0 : Int) ≤ s ∧ s < kL (f 121 49) then
  if kK (f 121 4) = 21 ∧ (0 : Int) ≤ f (f 121 49) s ∧ f (f 121 49) s < kL (f 121 4) then
  ob (M_newStep 121 t s (w32 (node - (f (f 121 4) (f (f 121 49) s)))) f) (fun r78 => lhN R i j k t r78.1 r78.2)
  else none
  else none
def lhQ (R : Nat → List Int → Hp → Option (Hp)) (s node i j : Int) (z : (Int × Int × Hp) ⊕ (Hp)) : Option (Hp) :=
  match z with
  | .inl e61 => if kK 121 = 11 then lhK R s node i j e61.1 e61.2.1 e61.2.2 else none
  | .inr e117 => some e117
theorem laysHost_eq (R : Nat → List Int → Hp → Option (Hp)) (d : Nat) (s node i j k : Int) (h : Hp) : M_laysHost_b R d 121 s node i j k h = ob (loopN (fun q => M_laysHost_L7 R d 121 s node i j q.1 q.2.1 q.2.2) LN (k, 0, h)) (fun z => lhQ R s node i j z) := rfl
def lbK (R : Nat → List Int → Hp → Option (Hp)) (d : Nat) (s node i j p q k m w : Int) (f : Hp) : Option (Hp) :=
  if kK (f 121 8) = 21 ∧ (0 : Int) ≤ node ∧ node < kL (f 121 8) then
  if kK (f 121 14) = 23 ∧ (0 : Int) ≤ f (f 121 8) node ∧ f (f 121 8) node < kL (f 121 14) then
  if kK (f 121 9) = 21 ∧ (0 : Int) ≤ node ∧ node < kL (f 121 9) then
  if kK (f 121 14) = 23 ∧ (0 : Int) ≤ f (f 121 9) node ∧ f (f 121 9) node < kL (f 121 14) then
  M_laysBelow_j192 R d 121 s node j p q k m w (f (f 121 14) (f (f 121 8) node)) (f (f 121 14) (f (f 121 9) node)) ((if f (f 121 14) (f (f 121 8) node) = 0 then (-1) else p)) m i (f (f 121 8) node) 1 s 121 f
  else none
  else none
  else none
  else none
def lbQ (R : Nat → List Int → Hp → Option (Hp)) (d : Nat) (s node i j p q : Int) (z : (Int × Int × Hp) ⊕ (Hp)) : Option (Hp) :=
  match z with
  | .inl e128 => ob (M_waysSecond d 121 node e128.2.1 j p q e128.2.2) (fun r138 => lbK R d s node i j p q e128.1 e128.2.1 r138.1 r138.2)
  | .inr e261 => some e261
theorem j38_eq (R : Nat → List Int → Hp → Option (Hp)) (d : Nat) (s node i j p q k : Int) (h : Hp) : M_laysBelow_j38 R d 121 s node i j p q k h = if kK 121 = 11 then if kK (h 121 5) = 21 ∧ (0 : Int) ≤ node ∧ node < kL (h 121 5) then if h (h 121 5) node = 0 then if kK (h 121 9) = 21 ∧ (0 : Int) ≤ node ∧ node < kL (h 121 9) then if h (h 121 9) node = (-1) then if kK (h 121 8) = 21 ∧ (0 : Int) ≤ node ∧ node < kL (h 121 8) then ob (R 0 [121, s, 1, h (h 121 8) node, i, j, p, q, k] h) (fun r76 => some r76) else none else ob (loopN (fun q' => M_laysBelow_L87 R d 121 s node i j p q q'.1 q'.2.1 q'.2.2) LN (k, i, h)) (fun z => lbQ R d s node i j p q z) else none else some h else none else none := rfl
section
variable {h h' h0 h1 h2 : Hp} {G : Gm} {ou : Int → Bool} {row : Int → Int} {st st' : St} {e : Nat}
theorem laysHost_ok (W : WF G) (I : GIn G) (he : 6 ≤ e) (Hs : SpecL (M_lays_G e 0) G ou row ((e : Int) - 6)) {half node i j p q t : Int} {d : Dv} {k : Nat} {s : Int} (hi : itm G half node i j p q) (hB : fr G half node i j p q ≤ (e : Int) - 2) (hk : k ≤ 1000000000000000) (N : Nth G ou row (.intMul t d) half node i j p q k) (P : PreL h G ou row st s node (dst d + 1)) :
    Laid (M_lays_G (e + 1) 2 [121, s, node, i, j, k] h) h G ou row (.intMul t d) s node i j p q st := by
  have nt := wf_nt W
  have nn := wf_nn W
  have n0 := hi.2.1
  have n1 := hi.2.2.1
  have j8 := hi.2.2.2.2.2.1
  obtain ⟨Rp, hM, hS, hT, hF, hl, s0, s1, et⟩ := P
  obtain ⟨k4, ep, eq, k', P, t0, t1, hg, hs, f1, hk', n, hfr, -⟩ := inv_place I hi N
  have hr := root_in W t0 t1
  have y6 : kK 124 = 21 ∧ (0 : Int) ≤ node ∧ node < kL 124 := ⟨kK_124, n0, by rw [kL_124]; omega⟩
  obtain ⟨P1, P2, P3, P4⟩ := P
  have lp : ∃ g', J4 h G ou row g' ∧ loopN (fun q' => M_laysHost_L7 (M_lays_G e) e 121 s node i j q'.1 q'.2.1 q'.2.2) LN ((k : Int), 0, h) = some (.inl ((k' : Int), t, g')) := by
    obtain ⟨r, x, g', jg, er⟩ := walk_loop (body := fun q' => M_laysHost_L7 (M_lays_G e) e 121 s node i j q'.1 q'.2.1 q'.2.2) (f := fH G ou row (lb G node) i j) (lo := 0) (y1 := t) (k := k) (J4 h G ou row) (fun r => ∃ g', J4 h G ou row g' ∧ r = .inl ((k' : Int), t, g')) ⟨D144.rf, hM⟩ (by omega) P1 (by omega) (by
      intro y κ g y0 y1 jg hf hκ
      have Rg := RepM_144 Rp jg.1
      show ∃ g', M_laysHost_L7 (M_lays_G e) e 121 s node i j κ y g = _ ∧ _
      unfold M_laysHost_L7 M_laysHost_j111
      rw [if_pos kK_121, Rg.2.1, if_neg (by omega), ms_at Rg.1 (show ((6 : Int), (124 : Int)) ∈ msL by decide), if_pos y6, (Rg.2.2.2.2.1 node n0 n1).2.1, M_mayGo_ok Rg W y0 (by omega), ob_some, show w32 (y + 1) = y + 1 by unfold w32; omega]
      unfold fH at hf ⊢
      cases hgo : goB G ou y (lb G node) 0
      · rw [if_pos (by decide), if_neg Bool.false_ne_true]
        exact ⟨g, rfl, jg⟩
      · rw [hgo, if_pos rfl] at hf
        obtain ⟨fy, -, -, -⟩ := place_item W hi k4 y0 (show y < nT G by omega) (goB_spec hgo).1
        have ht : turn G (ft G y) < turn G node := by
          have hpl := wf_place W n0 n1 k4
          have hnd := (wf_nd W n0 n1).2.2.1 (by omega)
          have : turn G node = 2 := by
            unfold turn
            rw [if_neg (by omega), if_neg (by omega)]
          rw [this, turn_root W y0 (show y < nT G by omega)]
          split <;> omega
        have hfr := fr_turn (i' := i) (j' := j) (p' := -1) (q' := -1) W hi y0 (show y < nT G by omega) ht (by rw [ep, eq])
        obtain ⟨g', x1, D1, M1⟩ := M_waysOf_ok W (d := e) fy (by omega) Rg jg.2
        rw [if_neg (by decide), M_root_ok Rg W y0 (by omega), ob_some, x1, ob_some]
        dsimp only
        rw [if_pos ((cap_le (show κ ≤ 1000000000000000 by omega)).mpr hf), cap_sub (show κ ≤ 1000000000000000 by omega) hf, if_pos rfl]
        exact ⟨g', rfl, jg.1.tr D1, M1⟩) (by
      intro g jg
      have Rg := RepM_144 Rp jg.1
      rw [show k - sI (fH G ou row (lb G node) i j) 0 (t - 1) = k' by omega]
      obtain ⟨g', x1, D1, M1⟩ := M_waysOf_ok W (d := e) f1 (by omega) Rg jg.2
      refine ⟨_, ?_, g', ⟨jg.1.tr D1, M1⟩, rfl⟩
      show M_laysHost_L7 (M_lays_G e) e 121 s node i j k' t g = _
      unfold M_laysHost_L7
      rw [if_pos kK_121, Rg.2.1, if_neg (by omega), ms_at Rg.1 (show ((6 : Int), (124 : Int)) ∈ msL by decide), if_pos y6, (Rg.2.2.2.2.1 node n0 n1).2.1, M_mayGo_ok Rg W P1 (by omega), ob_some, hg, if_neg (by decide), M_root_ok Rg W P1 (by omega), ob_some, x1, ob_some]
      dsimp only
      rw [if_neg (fun z => absurd ((cap_le (show k' ≤ 1000000000000000 by omega)).mp z) (by omega))])
    exact ⟨g', jg, by rw [x, er]⟩
  obtain ⟨g1, J1, x1⟩ := lp
  have R1 := RepM_144 Rp J1.1
  have T1 := RTab_144 hT J1.1
  have S1 := SShp_5 J1.1.f5 hS
  obtain ⟨v1, v2, g3, x3, L3⟩ := put_ok (t := t) W R1 J1.2 S1 T1 hF (by omega) s0 s1 et n0 n1
  show Laid (if 1 ≤ e then M_laysHost_b (M_lays_G e) e 121 s node i j k h else none) h G ou row _ s node i j p q st
  rw [if_pos (by omega), laysHost_eq, x1, ob_some]
  show Laid (if kK 121 = 11 then lhK (M_lays_G e) s node i j k' t g1 else none) h G ou row _ s node i j p q st
  unfold lhK
  rw [if_pos kK_121, if_pos v1, if_pos v2, x3, ob_some]
  show Laid (lhN (M_lays_G e) i j k' t st.length g3) h G ou row _ s node i j p q st
  unfold lhN
  have R3 := RepM_5 R1 L3.1.1
  have S3 := SShp_5 L3.1.1 S1
  have F3 : Fresh ((t, s, off G node) :: st) := lay_Fresh (G := G) (.intMul t .zero) s node st s1 hF
  rw [M_root_ok R3 W t0 t1, ob_some]
  have l3 : (((t, s, off G node) :: st).length) = st.length + 1 := rfl
  obtain ⟨g4, x4, L4, Y4⟩ := Hs d (ft G t) i j (-1) (-1) k' st.length ((t, s, off G node) :: st) g3 f1 (by omega) (by omega) hk' n ⟨R3, L3.2.1, S3, L3.2.2, F3, by omega, by omega, by omega, by rw [cons_ent, hr.2.2]⟩
  rw [x4, ob_some]
  have A1 : LK h g1 st st (fun _ => False) := LK_144 J1.1
  have A2 : LK h g3 st ((t, s, off G node) :: st) (fun _ => False) := LK_tr A1 L3.1 (fun _ z => False.elim z) (fun _ => by simp)
  have A3 := LK_tr (W3 := Wr i j p q) A2 L4.1 (fun _ z => False.elim z) (fun _ => by rw [ep, eq]; simp)
  refine ⟨g4, rfl, ⟨A3, L4.2.1, L4.2.2⟩, ?_⟩
  rw [ep, eq]
  exact Y4
theorem Wr_split {s1 s2 i m j p q n : Int} (h1 : s1 = 0 ∨ s1 = 1) (h2 : s2 = 0 ∨ s2 = 1) (h3 : (s1 + s2 = 0 ∧ p = -1 ∧ q = -1) ∨ (s1 + s2 = 1 ∧ i ≤ p ∧ p ≤ q ∧ q ≤ j)) (i0 : 0 ≤ i) (m0 : i ≤ m) (m1 : m ≤ j) (h4 : ¬ (s1 = 1 ∧ m < q)) (h5 : ¬ (s2 = 1 ∧ p < m)) : (Wr i j p q n ↔ Wr i m (gp s1 p) (gp s1 q) n ∨ Wr m j (gp s2 p) (gp s2 q) n) ∧ (Wr i m (gp s1 p) (gp s1 q) n → ¬ Wr m j (gp s2 p) (gp s2 q) n) := by
  unfold Wr gp
  rcases h1 with rfl | rfl
  · rcases h2 with rfl | rfl
    · rw [if_neg (by decide), if_neg (by decide)]
      omega
    · rw [if_neg (by decide), if_neg (by decide), if_pos rfl, if_pos rfl]
      omega
  · rcases h2 with rfl | rfl
    · rw [if_pos rfl, if_pos rfl, if_neg (by decide), if_neg (by decide)]
      omega
    · omega
theorem laysBelow_ok (W : WF G) (I : GIn G) (he : 7 ≤ e) (Hs' : ∀ e', e' ≤ e → SpecL (M_lays_G e' 0) G ou row ((e' : Int) - 6)) : SpecB (M_lays_G (e + 1) 3) G ou row ((e : Int) - 4) := by
  intro d half node i j p q k s st h hi hnb hB hk hkw N P
  have Hs := Hs' e (Nat.le_refl _)
  have nt := wf_nt W
  have nn := wf_nn W
  have n0 := hi.2.1
  have n1 := hi.2.2.1
  have i0 := hi.2.2.2.1
  have ij := hi.2.2.2.2.1
  have j8 := hi.2.2.2.2.2.1
  have kd0 := wf_kd W n0 n1
  obtain ⟨e', rfl⟩ : ∃ e' : Nat, e = e' + 1 + 1 := ⟨e - 2, by omega⟩
  have y5 : kK 123 = 21 ∧ (0 : Int) ≤ node ∧ node < kL 123 := ⟨kK_123, n0, by rw [kL_123]; omega⟩
  have y8 : kK 126 = 21 ∧ (0 : Int) ≤ node ∧ node < kL 126 := ⟨kK_126, n0, by rw [kL_126]; omega⟩
  have y9 : kK 127 = 21 ∧ (0 : Int) ≤ node ∧ node < kL 127 := ⟨kK_127, n0, by rw [kL_127]; omega⟩
  have P' := P
  obtain ⟨Rp, hM, hS, hT, hF, hl, s0, s1, et⟩ := P
  obtain ⟨r1, r2, r3, r4, r5, r6, r7, r8⟩ := Rp.2.2.2.2.1 node n0 n1
  show Laid (if 1 ≤ e' + 1 + 1 then M_laysBelow_b (M_lays_G (e' + 1 + 1)) (e' + 1 + 1) 121 s node i j p q k h else none) h G ou row d s node i j p q st
  rw [if_pos (by omega)]
  unfold M_laysBelow_b
  rw [if_pos kK_121, ms_at Rp.1 (show ((5 : Int), (123 : Int)) ∈ msL by decide), if_pos y5, r1]
  have e38 : ∀ g, RepM g G ou row → kd G node ≠ 0 → M_laysBelow_j38 (M_lays_G (e' + 1 + 1)) (e' + 1 + 1) 121 s node i j p q k g = some g := by
    intro g Rg k0
    rw [j38_eq, if_pos kK_121, ms_at Rg.1 (show ((5 : Int), (123 : Int)) ∈ msL by decide), if_pos y5, (Rg.2.2.2.2.1 node n0 n1).1, if_neg k0]
  have e17 : ∀ g, RepM g G ou row → kd G node ≠ 4 → M_laysBelow_j17 (M_lays_G (e' + 1 + 1)) (e' + 1 + 1) 121 s node i j p q k g = M_laysBelow_j38 (M_lays_G (e' + 1 + 1)) (e' + 1 + 1) 121 s node i j p q k g := by
    intro g Rg k4
    unfold M_laysBelow_j17
    rw [if_pos kK_121, ms_at Rg.1 (show ((5 : Int), (123 : Int)) ∈ msL by decide), if_pos y5, (Rg.2.2.2.2.1 node n0 n1).1, if_neg k4]
  have n38 : kd G node = 0 → M_laysBelow_j38 (M_lays_G (e' + 1 + 1)) (e' + 1 + 1) 121 s node i j p q k h = if c2 G node = -1 then ob (M_lays_G (e' + 1 + 1) 0 [121, s, 1, c1 G node, i, j, p, q, k] h) (fun r76 => some r76) else ob (loopN (fun q' => M_laysBelow_L87 (M_lays_G (e' + 1 + 1)) (e' + 1 + 1) 121 s node i j p q q'.1 q'.2.1 q'.2.2) LN ((k : Int), i, h)) (fun z => lbQ (M_lays_G (e' + 1 + 1)) (e' + 1 + 1) s node i j p q z) := by
    intro k0
    rw [j38_eq, if_pos kK_121, ms_at Rp.1 (show ((5 : Int), (123 : Int)) ∈ msL by decide), if_pos y5, r1, if_pos k0, ms_at Rp.1 (show ((9 : Int), (127 : Int)) ∈ msL by decide), if_pos y9, r5, ms_at Rp.1 (show ((8 : Int), (126 : Int)) ∈ msL by decide), if_pos y8, r4]
  cases d with
  | var _ => exact False.elim N
  | neg d' => exact absurd ⟨N.1, N.2.1⟩ hnb
  | sub x d' => exact absurd ⟨N.1, N.2.1⟩ hnb
  | zero =>
    have hkd := N.2.1
    rw [wLeaf_eq W hi (Or.inl (by omega))] at hkw
    unfold wBelow at hkw
    by_cases k1 : kd G node = 1
    · rw [if_pos k1] at hkw ⊢
      have hj : j = i + 1 := by
        split at hkw
        · rename_i z; exact z.1
        · omega
      have ep : p = -1 ∧ q = -1 := by
        have hsn := (wf_sp W n0 n1).2.2.1 (by omega) (by omega)
        rcases hi.2.2.2.2.2.2 with ⟨z, -⟩ | ⟨-, z1, z2⟩
        · omega
        · exact ⟨z1, z2⟩
      have hl' : st.length + 0 ≤ 128 := hl
      obtain ⟨g, x, L, ⟨e3, e4⟩, e5, T'⟩ := M_laysLetter_ok W Rp hS hT s0 s1 (by omega) n0 n1 et i0 (show i < 8 by omega)
      have Rg := RepM_5 Rp L.1
      rw [x, ob_some, e17 g Rg (by omega), e38 g Rg (by omega)]
      have wi : ∀ n, Wr i j p q n ↔ n = i := by
        intro n
        rw [ep.1, ep.2, hj]
        unfold Wr
        omega
      refine ⟨g, rfl, ⟨LK_tr (W3 := Wr i j p q) (LK_144 D144.rf) L (fun _ z => False.elim z) (fun n => by rw [wi n]; simp), Memo_5 L.1 e5 hM, T'⟩, ?_⟩
      intro fs fo hf
      show (if kd G node = 1 then [(s, off G node)] else _) = _
      have := hf i ((wi i).mpr rfl)
      rw [if_pos k1, hj, Ents_1, this.1, this.2, e3, e4]
    · rw [if_neg k1] at hkw ⊢
      rw [e17 h Rp (by omega), e38 h Rp (by omega)]
      have hno : ∀ n, ¬ Wr i j p q n := by
        intro n
        by_cases k2 : kd G node = 2
        · rw [if_pos k2] at hkw
          have hj : i = j := by
            split at hkw
            · assumption
            · omega
          have ep : p = -1 := by
            have hsn := (wf_sp W n0 n1).2.2.1 (by omega) (by omega)
            rcases hi.2.2.2.2.2.2 with ⟨z, -⟩ | ⟨-, z1, z2⟩
            · omega
            · exact z1
          unfold Wr
          omega
        · rw [if_neg k2, if_pos (by omega)] at hkw
          have hj : p = i ∧ q = j := by
            split at hkw
            · assumption
            · omega
          unfold Wr
          omega
      refine ⟨h, rfl, ⟨LK_tr (W3 := Wr i j p q) (LK_144 D144.rf) (LK_144 D144.rf) (fun _ z => False.elim z) (fun n => ⟨fun z => absurd z (hno n), fun z => z.elim False.elim False.elim⟩), hM, hT⟩, ?_⟩
      intro fs fo hf
      show (if kd G node = 1 then [(s, off G node)] else if kd G node = 3 then Ents fs fo p q else []) = _
      rw [if_neg k1]
      by_cases k2 : kd G node = 2
      · rw [if_pos k2] at hkw
        have hj : i = j := by
          split at hkw
          · assumption
          · omega
        rw [if_neg (by omega), hj, Ents_0]
      · rw [if_neg k2, if_pos (by omega)] at hkw
        have hj : p = i ∧ q = j := by
          split at hkw
          · assumption
          · omega
        rw [if_pos (by omega), hj.1, hj.2]
  | intMul t d' =>
    obtain ⟨k4, -⟩ := inv_place I hi N
    obtain ⟨g, x, L, Y⟩ := laysHost_ok (e := e' + 1) W I (by omega) (Hs' (e' + 1) (by omega)) hi (by omega) hk N P'
    rw [if_neg (by omega)]
    unfold M_laysBelow_j17
    rw [if_pos kK_121, ms_at Rp.1 (show ((5 : Int), (123 : Int)) ∈ msL by decide), if_pos y5, r1, if_pos k4, x, ob_some, e38 g (RepM_5 Rp L.1.1) (by omega)]
    exact ⟨g, rfl, L, Y⟩
  | natMul c d' =>
    obtain ⟨rfl⟩ := N.1
    obtain ⟨k0, c2', f1, hk', n, hfr, -⟩ := inv_unary I hi hkw N
    have c := (ch_in W n0 n1 k0).1
    rw [if_neg (by omega), e17 h Rp (by omega), n38 k0, if_pos c2']
    obtain ⟨g, x, L, Y⟩ := Hs d' (c1 G node) i j p q k s st h f1 (by omega) hk hk' n ⟨Rp, hM, hS, hT, hF, hl, s0, s1, by rw [c.2.2.2]; exact et⟩
    rw [x, ob_some]
    exact ⟨g, rfl, L, Y⟩
  | add x y =>
    obtain ⟨rfl⟩ := N.1
    have hh0 : (0 : Int) = 0 := rfl
    have hkwx := hkw
    obtain ⟨k0, c2', m, k1, Pm, m0, m1, q1, q2, f1, f2, rr2, rr3, nx, ny, u1, u2, -⟩ := inv_split I hi N
    have c := (ch_in W n0 n1 k0).1
    have c' := (ch_in W n0 n1 k0).2 c2'
    have ss1 := (wf_sp W c.2.1 c.2.2.1).1
    have ss2 := (wf_sp W c'.2.1 c'.2.2.1).1
    have ssn := (wf_sp W n0 n1).2.2.2 k0
    rw [if_neg c2'] at ssn
    have hgp : (sp G (c1 G node) + sp G (c2 G node) = 0 ∧ p = -1 ∧ q = -1) ∨ (sp G (c1 G node) + sp G (c2 G node) = 1 ∧ i ≤ p ∧ p ≤ q ∧ q ≤ j) := by
      rcases hi.2.2.2.2.2.2 with ⟨z, z'⟩ | ⟨z, z'⟩
      · exact Or.inr ⟨by omega, z'⟩
      · exact Or.inl ⟨by omega, z'⟩
    rw [if_neg (by omega), e17 h Rp (by omega), n38 k0, if_neg c2']
    obtain ⟨P1, P2, P3, P4⟩ := Pm
    have hk1 : k1 ≤ 1000000000000000 := by omega
    have stp : ∀ (y : Int) (κ : Nat) (g : Hp), i ≤ y → y ≤ j → J4 h G ou row g → κ ≤ 1000000000000000 → ∃ g', J4 h G ou row g' ∧ (fS G ou row node i j p q y ≤ κ → M_laysBelow_L87 (M_lays_G (e' + 1 + 1)) (e' + 1 + 1) 121 s node i j p q κ y g = some (.inl (((κ - fS G ou row node i j p q y : Nat) : Int), y + 1, g'))) ∧ (κ < fS G ou row node i j p q y → M_laysBelow_L87 (M_lays_G (e' + 1 + 1)) (e' + 1 + 1) 121 s node i j p q κ y g = some (.inr (.inl ((κ : Int), y, g')))) := by
      intro y κ g y0 y1 jg hκ
      have Rg := RepM_144 Rp jg.1
      obtain ⟨g', x1, D1, M1⟩ := split_ok (e := e') (B := (e' : Int) - 4) W (by omega) (waysOf_spec W e') hi k0 c2' y0 y1 (by omega) Rg jg.2
      refine ⟨g', ⟨jg.1.tr D1, M1⟩, ?_, ?_⟩
      · intro hf
        unfold M_laysBelow_L87 M_waysSplit
        rw [if_neg (by omega), if_pos kK_121, x1, ob_some]
        dsimp only
        have hf' : wSplit G (wW G ou row) node i y j p q ≤ κ := hf
        unfold fS
        rw [if_neg (fun z => absurd ((cap_lt hκ).mp z) (by omega)), cap_sub hκ hf', show w32 (y + 1) = y + 1 by unfold w32; omega]
      · intro hf
        unfold M_laysBelow_L87 M_waysSplit
        rw [if_neg (by omega), if_pos kK_121, x1, ob_some]
        dsimp only
        have hf' : κ < wSplit G (wW G ou row) node i y j p q := hf
        rw [if_pos ((cap_lt hκ).mpr hf')]
    have lp : ∃ g', J4 h G ou row g' ∧ loopN (fun q' => M_laysBelow_L87 (M_lays_G (e' + 1 + 1)) (e' + 1 + 1) 121 s node i j p q q'.1 q'.2.1 q'.2.2) LN ((k : Int), i, h) = some (.inl ((k1 : Int), m, g')) := by
      obtain ⟨r, x, g', jg, er⟩ := walk_loop (body := fun q' => M_laysBelow_L87 (M_lays_G (e' + 1 + 1)) (e' + 1 + 1) 121 s node i j p q q'.1 q'.2.1 q'.2.2) (f := fS G ou row node i j p q) (lo := i) (y1 := m) (k := k) (J4 h G ou row) (fun r => ∃ g', J4 h G ou row g' ∧ r = .inl ((k1 : Int), m, g')) ⟨D144.rf, hM⟩ (by omega) P1 (by omega) (by
        intro y κ g y0 y1 jg hf hκ
        obtain ⟨g', j1, b1, -⟩ := stp y κ g y0 (by omega) jg (by omega)
        exact ⟨g', b1 hf, j1⟩) (by
        intro g jg
        rw [show k - sI (fS G ou row node i j p q) i (m - 1) = k1 by omega]
        obtain ⟨g', j1, -, b1⟩ := stp m k1 g P1 P2 jg hk1
        exact ⟨_, b1 P4, g', j1, rfl⟩)
      exact ⟨g', jg, by rw [x, er]⟩
    obtain ⟨g1, J1, x1⟩ := lp
    have R1 := RepM_144 Rp J1.1
    obtain ⟨g2, x2, D2, M2⟩ := second_ok (e := e' + 1) (B := ((e' + 1 : Nat) : Int) - 4) W (by omega) (waysOf_spec W (e' + 1)) n0 n1 c'.2.1 c'.2.2.1 f2 (by omega) R1 J1.2
    have D02 := J1.1.tr D2
    have R2 := RepM_144 R1 D2
    have T2 := RTab_144 hT D02
    have S2 := SShp_5 D02.f5 hS
    have rw2 := R2.2.2.2.2.1 node n0 n1
    have y14a : kK 130 = 23 ∧ (0 : Int) ≤ c1 G node ∧ c1 G node < kL 130 := ⟨kK_130, c.2.1, by rw [kL_130]; omega⟩
    have y14b : kK 130 = 23 ∧ (0 : Int) ≤ c2 G node ∧ c2 G node < kL 130 := ⟨kK_130, c'.2.1, by rw [kL_130]; omega⟩
    have k1' := (R2.2.2.2.2.1 _ c.2.1 c.2.2.1).2.2.2.2.2.2.1
    have k2' := (R2.2.2.2.2.1 _ c'.2.1 c'.2.2.1).2.2.2.2.2.2.1
    rw [x1, ob_some]
    show Laid (ob (M_waysSecond (e' + 1 + 1) 121 node m j p q g1) (fun r138 => lbK (M_lays_G (e' + 1 + 1)) (e' + 1 + 1) s node i j p q k1 m r138.1 r138.2)) h G ou row _ s node i j p q st
    unfold M_waysSecond
    rw [x2, ob_some]
    show Laid (lbK (M_lays_G (e' + 1 + 1)) (e' + 1 + 1) s node i j p q k1 m (capN (wW G ou row 1 (c2 G node) m j (gp (sp G (c2 G node)) p) (gp (sp G (c2 G node)) q))) g2) h G ou row _ s node i j p q st
    have wne : capN (wW G ou row 1 (c2 G node) m j (gp (sp G (c2 G node)) p) (gp (sp G (c2 G node)) q)) ≠ 0 := fun z => by rw [capN_0.mp z] at rr3; exact Nat.not_lt_zero _ rr3
    unfold lbK
    rw [ms_at R2.1 (show ((8 : Int), (126 : Int)) ∈ msL by decide), if_pos y8, rw2.2.2.2.1, ms_at R2.1 (show ((14 : Int), (130 : Int)) ∈ msL by decide), if_pos y14a, ms_at R2.1 (show ((9 : Int), (127 : Int)) ∈ msL by decide), if_pos y9, rw2.2.2.2.2.1, if_pos y14b, k1', k2', gp_if ss1]
    unfold M_laysBelow_j192
    rw [gp_if ss1]
    unfold M_laysBelow_j203
    rw [if_pos wne, if_pos kK_121, cap_div hk1]
    have hl0 : st.length + (dst x + dst y) ≤ 128 := hl
    obtain ⟨g4, x4, L4, Y4⟩ := Hs x (c1 G node) i m (gp (sp G (c1 G node)) p) (gp (sp G (c1 G node)) q) _ s st g2 f1 (by omega) (by have := Nat.div_le_self k1 (wW G ou row 1 (c2 G node) m j (gp (sp G (c2 G node)) p) (gp (sp G (c2 G node)) q)); omega) rr2 nx ⟨R2, M2, S2, T2, hF, by omega, s0, s1, by rw [c.2.2.2]; exact et⟩
    have R4 := RepM_5 R2 L4.1.1
    have S4 := SShp_5 L4.1.1 S2
    have ll4 := lay_len (G := G) x s (c1 G node) st
    have F4' := lay_Fresh (G := G) x s (c1 G node) st s1 hF
    have ent4 := lay_ent (G := G) x s (c1 G node) st s s1
    have rw4 := R4.2.2.2.2.1 node n0 n1
    rw [x4, ob_some, if_pos kK_121, ms_at R4.1 (show ((9 : Int), (127 : Int)) ∈ msL by decide), if_pos y9, rw4.2.2.2.2.1, gp_if ss2]
    unfold M_laysBelow_j235
    rw [gp_if ss2]
    unfold M_laysBelow_j246
    rw [if_pos wne, if_pos kK_121, cap_mod hk1]
    obtain ⟨g5, x5, L5, Y5⟩ := Hs y (c2 G node) m j (gp (sp G (c2 G node)) p) (gp (sp G (c2 G node)) q) _ s (lay G x s (c1 G node) st) g4 f2 (by omega) (by have := Nat.mod_le k1 (wW G ou row 1 (c2 G node) m j (gp (sp G (c2 G node)) p) (gp (sp G (c2 G node)) q)); omega) rr3 ny ⟨R4, L4.2.1, S4, L4.2.2, F4', by omega, s0, by omega, by rw [c'.2.2.2, ent4]; exact et⟩
    rw [x5, ob_some]
    have ws : ∀ n, _ := fun n => Wr_split (n := n) ss1 ss2 hgp i0 m0 m1 q1 q2
    have A1 : LK h g2 st st (fun _ => False) := LK_144 D02
    have A2 := LK_tr (W3 := Wr i m (gp (sp G (c1 G node)) p) (gp (sp G (c1 G node)) q)) A1 L4.1 (fun _ z => False.elim z) (fun _ => by simp)
    have A3 := LK_tr (W3 := Wr i j p q) A2 L5.1 (fun n => (ws n).2) (fun n => (ws n).1)
    refine ⟨g5, rfl, ⟨A3, L5.2.1, L5.2.2⟩, ?_⟩
    intro fs fo hf
    have sx := Nth_Sh I x _ _ _ _ _ _ _ f1 rr2 (fun z => absurd z (by decide)) nx
    have sy := Nth_Sh I y _ _ _ _ _ _ _ f2 rr3 (fun z => absurd z (by decide)) ny
    have q4 := Y4 fs fo (fun n hn => by
      have a1 := hf n ((ws n).1.mpr (Or.inl hn))
      have a2 := L5.1.2.1 n ((ws n).2 hn)
      rw [a1.1, a1.2, a2.1, a2.2]
      exact ⟨rfl, rfl⟩)
    have q5 := Y5 fs fo (fun n hn => hf n ((ws n).1.mpr (Or.inr hn)))
    show yl G x s (c1 G node) (Ents fs fo p q) st.length ++ yl G y s (c2 G node) (Ents fs fo p q) ((st.length : Int) + (dst x : Int)) = _
    rw [show ((lay G x s (c1 G node) st).length : Int) = (st.length : Int) + (dst x : Int) by omega] at q5
    have b4 : yl G x s (c1 G node) (Ents fs fo p q) st.length = yl G x s (c1 G node) (Ents fs fo (gp (sp G (c1 G node)) p) (gp (sp G (c1 G node)) q)) st.length := by
      rcases ss1 with z | z
      · exact yl_nofoot W x s 1 (c1 G node) _ _ _ sx c.2.1 c.2.2.1 (fun _ => z) (fun z => absurd z (by decide))
      · rw [z]; rfl
    have b5 : yl G y s (c2 G node) (Ents fs fo p q) ((st.length : Int) + (dst x : Int)) = yl G y s (c2 G node) (Ents fs fo (gp (sp G (c2 G node)) p) (gp (sp G (c2 G node)) q)) ((st.length : Int) + (dst x : Int)) := by
      rcases ss2 with z | z
      · exact yl_nofoot W y s 1 (c2 G node) _ _ _ sy c'.2.1 c'.2.2.1 (fun _ => z) (fun z => absurd z (by decide))
      · rw [z]; rfl
    rw [b4, q4, b5, q5]
    exact Ents_app m0 m1
theorem lays_spec (W : WF G) (I : GIn G) : ∀ d : Nat, SpecL (M_lays_G d 0) G ou row ((d : Int) - 6) := by
  intro e0
  induction e0 using Nat.strongRecOn with
  | _ e0 ih =>
  intro d node i j p q k s st h hi hfr hk hkw N P
  have h4 := fr_pos W hi
  obtain ⟨e, rfl⟩ : ∃ e : Nat, e0 = e + 1 + 1 := ⟨e0 - 2, by omega⟩
  have n0 := hi.2.1
  have n1 := hi.2.2.1
  have nn := wf_nn W
  have he : 8 ≤ e := by omega
  have Rp := P.1
  have y5 : kK 123 = 21 ∧ (0 : Int) ≤ node ∧ node < kL 123 := ⟨kK_123, n0, by rw [kL_123]; omega⟩
  show Laid (if 1 ≤ e + 1 then M_lays_b (M_lays_G (e + 1)) (e + 1) 121 s 1 node i j p q k h else none) h G ou row d s node i j p q st
  rw [if_pos (by omega)]
  unfold M_lays_b
  rw [if_pos rfl, if_pos kK_121, ms_at Rp.1 (show ((5 : Int), (123 : Int)) ∈ msL by decide), if_pos y5, (Rp.2.2.2.2.1 node n0 n1).1]
  by_cases hk0 : kd G node = 0
  · rw [if_pos hk0]
    obtain ⟨e', rfl⟩ : ∃ e' : Nat, e = e' + 1 := ⟨e - 1, by omega⟩
    have Hb := laysBelow_ok (ou := ou) (row := row) (e := e') W I (by omega) (fun e'' he'' => ih e'' (by omega))
    have Hb' : SpecB (M_lays_G (e' + 1) 3) G ou row (((e' + 1 : Nat) : Int) - 5) := by
      rw [show (((e' + 1 : Nat) : Int) - 5) = (e' : Int) - 4 by omega]; exact Hb
    obtain ⟨g, x, L, Y⟩ := laysAbove_ok (e := e' + 1) W I (by omega) (ih (e' + 1) (by omega)) Hb' hi hk0 (by omega) hk N P
    rw [x, ob_some]
    exact ⟨g, rfl, L, Y⟩
  · rw [if_neg hk0]
    unfold M_lays_j33
    obtain ⟨g, x, L, Y⟩ := laysBelow_ok (ou := ou) (row := row) (e := e) W I (by omega) (fun e'' he'' => ih e'' (by omega)) d 1 node i j p q k s st h hi (fun z => hk0 z.2) (by omega) hk hkw N P
    rw [if_pos kK_121, x, ob_some]
    exact ⟨g, rfl, L, Y⟩
end
