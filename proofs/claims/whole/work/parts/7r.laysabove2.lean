/-! the reference: what is laid above a node -/
def laN (R : Nat → List Int → Hp → Option (Hp)) (s node i j p q k3 t a c w s' : Int) (f : Hp) : Option (Hp) :=
  ob (M_root 121 t f) (fun r207 =>
    if w ≠ 0 then
    ob (R 0 [121, s', 1, r207, i, j, a, c, w64 (Int.tdiv k3 w)] f) (fun r222 =>
      ob (R 3 [121, s, node, a, c, p, q, w64 (Int.tmod k3 w)] r222) (fun r241 =>
        some r241))
    else none)
def laK (R : Nat → List Int → Hp → Option (Hp)) (s node i j p q k3 t a c w : Int) (f : Hp) : Option (Hp) :=
  if kK (f 121 49) = 21 ∧ (0 : Int) ≤ s ∧ s < kL (f 121 49) then
  if kK (f 121 4) = 21 ∧ (0 : Int) ≤ f (f 121 49) s ∧ f (f 121 49) s < kL (f 121 4) then
  ob (M_newStep 121 t s (w32 (node - (f (f 121 4) (f (f 121 49) s)))) f) (fun r195 => laN R s node i j p q k3 t a c w r195.1 r195.2)
  else none
  else none
def laQ (R : Nat → List Int → Hp → Option (Hp)) (d : Nat) (s node i j p q : Int) (z : (Int × Int × Int × Int × Hp) ⊕ (Hp)) : Option (Hp) :=
  match z with
  | .inl e162 => if kK 121 = 11 then ob (M_waysOf d 121 0 node e162.2.2.1 e162.2.2.2.1 p q e162.2.2.2.2) (fun r173 => laK R s node i j p q e162.1 e162.2.1 e162.2.2.1 e162.2.2.2.1 r173.1 r173.2) else none
  | .inr e270 => some e270
theorem j60_eq (R : Nat → List Int → Hp → Option (Hp)) (d : Nat) (s node i j p q k : Int) (h : Hp) : M_laysAbove_j60 R d 121 s node i j p q k h = ob (loopN (fun q' => M_laysAbove_L63 R d 121 s node i j p q q'.1 q'.2.1 q'.2.2) LN (k, 0, h)) (fun z => laQ R d s node i j p q z) := rfl
def laA (R : Nat → List Int → Hp → Option (Hp)) (d : Nat) (s node i j p q k w : Int) (f : Hp) : Option (Hp) :=
  if w ≤ k then
    M_laysAbove_j60 R d 121 s node i j p q (w64 (k - w)) f
  else
    ob (R 3 [121, s, node, i, j, p, q, k] f) (fun r49 =>
      some r49)
theorem laysAbove_eq (R : Nat → List Int → Hp → Option (Hp)) (d : Nat) (s node i j p q k : Int) (h : Hp) : M_laysAbove_b R d 121 s node i j p q k h = if kK 121 = 11 then if kK (h 121 7) = 21 ∧ (0 : Int) ≤ node ∧ node < kL (h 121 7) then if h (h 121 7) node = 2 then M_laysAbove_j60 R d 121 s node i j p q k h else ob (M_waysOf d 121 0 node i j p q h) (fun r => laA R d s node i j p q k r.1 r.2) else none else none := rfl
section
variable {h h' h0 h1 h2 : Hp} {G : Gm} {ou : Int → Bool} {row : Int → Int} {st st' : St} {e : Nat}
def JL (h h' : Hp) (G : Gm) (ou : Int → Bool) (row : Int → Int) (st st' : St) (Wp : Int → Prop) : Prop := LK h h' st st' Wp ∧ Memo h' G ou row ∧ RTab h' st'
/-- the letters laid are those of the tree -/
def Yd (h' : Hp) (G : Gm) (d : Dv) (s node i j p q N : Int) : Prop := ∀ fs fo : Int → Int, (∀ n, Wr i j p q n → fs n = h' 153 n ∧ fo n = h' 154 n) → yl G d s node (Ents fs fo p q) N = Ents fs fo i j
def PreL (h : Hp) (G : Gm) (ou : Int → Bool) (row : Int → Int) (st : St) (s node : Int) (n : Nat) : Prop := RepM h G ou row ∧ Memo h G ou row ∧ SShp h ∧ RTab h st ∧ Fresh st ∧ st.length + n ≤ 128 ∧ 0 ≤ s ∧ s < (st.length : Int) ∧ (sEnt st s).1 = tr G node
def Laid (F : Option Hp) (h : Hp) (G : Gm) (ou : Int → Bool) (row : Int → Int) (d : Dv) (s node i j p q : Int) (st : St) : Prop := ∃ h', F = some h' ∧ JL h h' G ou row st (lay G d s node st) (Wr i j p q) ∧ Yd h' G d s node i j p q st.length
def SpecL (F : List Int → Hp → Option Hp) (G : Gm) (ou : Int → Bool) (row : Int → Int) (B : Int) : Prop := ∀ (d : Dv) (node i j p q : Int) (k : Nat) (s : Int) (st : St) (h : Hp), itm G 1 node i j p q → fr G 1 node i j p q ≤ B → k ≤ 1000000000000000 → k < wW G ou row 1 node i j p q → Nth G ou row d 1 node i j p q k → PreL h G ou row st s node (dst d) → Laid (F [121, s, 1, node, i, j, p, q, k] h) h G ou row d s node i j p q st
def SpecB (F : List Int → Hp → Option Hp) (G : Gm) (ou : Int → Bool) (row : Int → Int) (B : Int) : Prop := ∀ (d : Dv) (half node i j p q : Int) (k : Nat) (s : Int) (st : St) (h : Hp), itm G half node i j p q → ¬ (half = 1 ∧ kd G node = 0) → fr G half node i j p q ≤ B → k ≤ 1000000000000000 → k < wW G ou row half node i j p q → Nth G ou row d half node i j p q k → PreL h G ou row st s node (dst d) → Laid (F [121, s, node, i, j, p, q, k] h) h G ou row d s node i j p q st
theorem lay_Fresh : ∀ (d : Dv) (s node : Int) (st : St), s < (st.length : Int) → Fresh st → Fresh (lay G d s node st)
  | .zero, s, node, st, hs, F => F
  | .var _, s, node, st, hs, F => F
  | .neg d, s, node, st, hs, F => lay_Fresh d s node st hs F
  | .intMul t d, s, node, st, hs, F => by
    refine lay_Fresh d st.length (ft G t) ((t, s, off G node) :: st) (by show (st.length : Int) < ((st.length + 1 : Nat) : Int); omega) ?_
    intro s' n' h
    have h' : ((st.length + 1 : Nat) : Int) ≤ s' := h
    show (if s = s' ∧ off G node = n' then (st.length : Int) else sPut st s' n') = -1
    rw [if_neg (fun z => by have := z.1; omega)]
    exact F _ _ (by omega)
  | .natMul _ d, s, node, st, hs, F => lay_Fresh d s _ st hs F
  | .add x y, s, node, st, hs, F => lay_Fresh y s _ _ (by rw [lay_len]; omega) (lay_Fresh x s _ st hs F)
  | .sub x d, s, node, st, hs, F => lay_Fresh d s _ _ (by rw [lay_len]; omega) (lay_Fresh x s _ st hs F)
theorem cons_ent {t s n : Int} (st : St) : sEnt ((t, s, n) :: st) (st.length : Int) = (t, s, n) := by
  show (if (st.length : Int) = st.length then _ else _) = _
  rw [if_pos rfl]
theorem LK.c5 {Wp : Int → Prop} (a : LK h h' st st' Wp) : F5 h h' := a.1
/-- a step is put into a node of step s -/
theorem put_ok (W : WF G) {t s node : Int} (Rp : RepM h G ou row) (M : Memo h G ou row) (S : SShp h) (T : RTab h st) (F : Fresh st) (hl : st.length < 128) (s0 : 0 ≤ s) (s1 : s < (st.length : Int)) (et : (sEnt st s).1 = tr G node) (n0 : 0 ≤ node) (n1 : node < nN G) :
    (kK (h 121 49) = 21 ∧ (0 : Int) ≤ s ∧ s < kL (h 121 49)) ∧ (kK (h 121 4) = 21 ∧ (0 : Int) ≤ h (h 121 49) s ∧ h (h 121 49) s < kL (h 121 4)) ∧ ∃ h', M_newStep 121 t s (w32 (node - (h (h 121 4) (h (h 121 49) s)))) h = some ((st.length : Int), h') ∧ JL h h' G ou row st ((t, s, off G node) :: st) (fun _ => False) := by
  have nt := wf_nt W
  have ht := wf_tr W n0 n1
  have rl := rel_in W n0 n1
  have e148 := (T.2 s s0 s1).1
  rw [et] at e148
  have e122 := Rp.2.2.2.1 (tr G node) ht.1 (by omega)
  have ew : w32 (node - ft G (tr G node)) = off G node := by unfold off w32; omega
  have o0 : 0 ≤ off G node ∧ off G node < 12 := by unfold off; omega
  rw [ss_at S (show ((49 : Int), (148 : Int)) ∈ ssL by decide), ms_at Rp.1 (show ((4 : Int), (122 : Int)) ∈ msL by decide), e148, e122, ew]
  obtain ⟨h', x, F5', T', e3, e4, e5⟩ := M_newStep_ok (t := t) (into := s) (n := off G node) S T F hl (Or.inr ⟨s0, s1, o0.1, o0.2⟩)
  exact ⟨⟨kK_148, s0, by rw [kL_148]; omega⟩, ⟨kK_122, ht.1, by rw [kL_122]; omega⟩, h', x, LK_new F5' e3 e4 e5, Memo_5 F5' (fun i => (e3 i).1) M, T'⟩
theorem laysAbove_ok (W : WF G) (I : GIn G) (he : 6 ≤ e) (Hs : SpecL (M_lays_G e 0) G ou row ((e : Int) - 6)) (Hb : SpecB (M_lays_G e 3) G ou row ((e : Int) - 5)) {node i j p q : Int} {d : Dv} {k : Nat} {s : Int} (hi : itm G 1 node i j p q) (hk0 : kd G node = 0) (hB : fr G 1 node i j p q ≤ (e : Int) - 4) (hk : k ≤ 1000000000000000) (N : Nth G ou row d 1 node i j p q k) (P : PreL h G ou row st s node (dst d)) :
    Laid (M_lays_G (e + 1) 1 [121, s, node, i, j, p, q, k] h) h G ou row d s node i j p q st := by
  have nt := wf_nt W
  have nn := wf_nn W
  have n0 := hi.2.1
  have n1 := hi.2.2.1
  have j8 := hi.2.2.2.2.2.1
  have sp' := itm_span hi
  obtain ⟨Rp, hM, hS, hT, hF, hl, s0, s1, et⟩ := P
  obtain ⟨e', rfl⟩ : ∃ e' : Nat, e = e' + 1 := ⟨e - 1, by omega⟩
  have hh := half_item hi
  have y7 : kK 125 = 21 ∧ (0 : Int) ≤ node ∧ node < kL 125 := ⟨kK_125, n0, by rw [kL_125]; omega⟩
  have fh := fr_half (G := G) (node := node) (i := i) (j := j) (p := p) (q := q)
  show Laid (if 1 ≤ e' + 1 then M_laysAbove_b (M_lays_G (e' + 1)) (e' + 1) 121 s node i j p q k h else none) h G ou row d s node i j p q st
  rw [if_pos (by omega), laysAbove_eq, if_pos kK_121, ms_at Rp.1 (show ((7 : Int), (125 : Int)) ∈ msL by decide), if_pos y7, (Rp.2.2.2.2.1 node n0 n1).2.2.1]
  -- the case of a guest
  have guest : ∀ (x d' : Dv), d = .sub x d' → ∀ g : Hp, J4 h G ou row g → Laid (M_laysAbove_j60 (M_lays_G (e' + 1)) (e' + 1) 121 s node i j p q ((k - bare G ou row node i j p q : Nat) : Int) g) h G ou row d s node i j p q st := by
    intro x d' ed g Jg
    subst ed
    obtain ⟨k0, m1, hb, t, k1, a, k2, c, k3, o, ex, P1, P2, P3, t0, t1, hg, hs, f1, f2, r2, r3, no, n, u1, u2, -⟩ := inv_guest I hi N
    subst ex
    have hr := root_in W t0 t1
    have sp1 := itm_span f1
    have sp2 := itm_span f2
    have hk1 : k1 ≤ 1000000000000000 := by have := P1.2.2.1; omega
    have hk2 : k2 ≤ 1000000000000000 := by have := P2.2.2.1; omega
    have hk3 : k3 ≤ 1000000000000000 := by have := P3.2.2.1; omega
    obtain ⟨g1, J1, x1⟩ := L63_find (e := e') (R := M_lays_G (e' + 1)) (s := s) W (by omega) hi (by omega) Rp Jg (by omega) P1 P2 P3
    have R1 := RepM_144 Rp J1.1
    obtain ⟨g2, x2, D2, M2⟩ := M_waysOf_ok W (d := e' + 1) f1 (by omega) R1 J1.2
    have R2 := RepM_144 R1 D2
    have D02 := J1.1.tr D2
    have T2 := RTab_144 hT D02
    have S2 := SShp_5 D02.f5 hS
    have dl : st.length + (dst o + 1 + dst d') ≤ 128 := hl
    obtain ⟨v1, v2, g3, x3, L3⟩ := put_ok (t := t) W R2 M2 S2 T2 hF (by omega) s0 s1 et n0 n1
    rw [j60_eq, x1, ob_some]
    unfold laQ
    dsimp only
    rw [if_pos kK_121, x2, ob_some]
    show Laid (laK (M_lays_G (e' + 1)) s node i j p q k3 t a c (capN (wW G ou row 0 node a c p q)) g2) h G ou row _ s node i j p q st
    unfold laK
    rw [if_pos v1, if_pos v2, x3, ob_some]
    show Laid (laN (M_lays_G (e' + 1)) s node i j p q k3 t a c (capN (wW G ou row 0 node a c p q)) st.length g3) h G ou row _ s node i j p q st
    unfold laN
    have R3 := RepM_5 R2 L3.1.1
    have S3 := SShp_5 L3.1.1 S2
    have F3 : Fresh ((t, s, off G node) :: st) := lay_Fresh (G := G) (.intMul t .zero) s node st s1 hF
    have wne : capN (wW G ou row 0 node a c p q) ≠ 0 := fun z => by rw [capN_0.mp z] at r3; exact Nat.not_lt_zero _ r3
    rw [M_root_ok R3 W t0 t1, ob_some, if_pos wne, cap_div hk3, cap_mod hk3]
    have l3 : (((t, s, off G node) :: st).length) = st.length + 1 := rfl
    obtain ⟨g4, x4, L4, Y4⟩ := Hs o (ft G t) i j a c (k3 / wW G ou row 0 node a c p q) st.length ((t, s, off G node) :: st) g3 f2 (by omega) (by have := Nat.div_le_self k3 (wW G ou row 0 node a c p q); omega) r2 no ⟨R3, L3.2.1, S3, L3.2.2, F3, by omega, by omega, by omega, by rw [cons_ent, hr.2.2]⟩
    have R4 := RepM_5 R3 L4.1.1
    have S4 := SShp_5 L4.1.1 S3
    have ll4 := lay_len (G := G) o st.length (ft G t) ((t, s, off G node) :: st)
    have F4' : Fresh (lay G o st.length (ft G t) ((t, s, off G node) :: st)) := lay_Fresh o _ _ _ (by omega) F3
    have ent4 : sEnt (lay G o st.length (ft G t) ((t, s, off G node) :: st)) s = sEnt st s := by
      rw [lay_ent o _ _ _ s (by omega)]
      show (if s = (st.length : Int) then _ else sEnt st s) = _
      rw [if_neg (by omega)]
    obtain ⟨g5, x5, L5, Y5⟩ := Hb d' 0 node a c p q (k3 % wW G ou row 0 node a c p q) s (lay G o st.length (ft G t) ((t, s, off G node) :: st)) g4 f1 (fun z => absurd z.1 (by decide)) (by omega) (by have := Nat.mod_le k3 (wW G ou row 0 node a c p q); omega) r3 n ⟨R4, L4.2.1, S4, L4.2.2, F4', by omega, s0, by omega, by rw [ent4]; exact et⟩
    rw [x4, ob_some, x5, ob_some]
    have w12 : ∀ n, Wr i j a c n → ¬ Wr a c p q n := by
      intro n
      unfold Wr
      omega
    have w3 : ∀ n, Wr i j p q n ↔ Wr i j a c n ∨ Wr a c p q n := by
      intro n
      have b1 := P2.2.1
      have b2 := P3.1
      unfold Wr
      by_cases hp : p = -1
      · rw [if_pos hp] at b1 b2
        omega
      · rw [if_neg hp] at b1 b2
        omega
    have A1 : LK h g2 st st (fun _ => False) := LK_144 D02
    have A2 : LK h g3 st ((t, s, off G node) :: st) (fun _ => False) := LK_tr A1 L3.1 (fun _ z => False.elim z) (fun _ => by simp)
    have A3 := LK_tr (W3 := Wr i j a c) A2 L4.1 (fun _ z => False.elim z) (fun _ => by simp)
    have A4 := LK_tr (W3 := Wr i j p q) A3 L5.1 w12 w3
    refine ⟨g5, rfl, ⟨A4, L5.2.1, L5.2.2⟩, ?_⟩
    intro fs fo hf
    show yl G o st.length (ft G t) (yl G d' s node (Ents fs fo p q) ((st.length : Int) + ((dst o + 1 : Nat) : Int))) ((st.length : Int) + 1) = _
    have q5 := Y5 fs fo (fun n hn => hf n ((w3 n).mpr (Or.inr hn)))
    rw [show ((lay G o st.length (ft G t) ((t, s, off G node) :: st)).length : Int) = (st.length : Int) + ((dst o + 1 : Nat) : Int) by omega] at q5
    rw [q5]
    have q4 := Y4 fs fo (fun n hn => by
      have a1 := hf n ((w3 n).mpr (Or.inl hn))
      have a2 := L5.1.2.1 n (w12 n hn)
      rw [a1.1, a1.2, a2.1, a2.2]
      exact ⟨rfl, rfl⟩)
    exact q4
  cases d with
  | zero => have := N.2.1; omega
  | var _ => exact False.elim N
  | intMul t d =>
    rcases N with ⟨z, -⟩ | ⟨-, z, -⟩
    · exact absurd z (by decide)
    · omega
  | natMul _ _ => exact absurd N.1 (by decide)
  | add _ _ => exact absurd N.1 (by decide)
  | neg d' =>
    obtain ⟨-, -, hm, hl', n⟩ := N
    obtain ⟨g1, x1, D1, M1⟩ := M_waysOf_ok W (d := e' + 1) hh.1 (by omega) Rp hM
    have hl0 : st.length + dst d' ≤ 128 := hl
    rw [if_neg hm, x1, ob_some]
    show Laid (laA (M_lays_G (e' + 1)) (e' + 1) s node i j p q k (capN (wW G ou row 0 node i j p q)) g1) h G ou row _ s node i j p q st
    unfold laA
    rw [if_neg (fun z => absurd ((cap_le hk).mp z) (by omega))]
    obtain ⟨g5, x5, L5, Y5⟩ := Hb d' 0 node i j p q k s st g1 hh.1 (fun z => absurd z.1 (by decide)) (by omega) hk hl' n ⟨RepM_144 Rp D1, M1, SShp_5 D1.f5 hS, RTab_144 hT D1, hF, hl0, s0, s1, et⟩
    rw [x5, ob_some]
    exact ⟨g5, rfl, ⟨LK_tr (LK_144 D1) L5.1 (fun _ z => False.elim z) (fun _ => by simp), L5.2.1, L5.2.2⟩, Y5⟩
  | sub x d' =>
    have hb := N.2.2.2.1
    by_cases hm : mk G node = 2
    · rw [if_pos hm]
      have g := guest x d' rfl h ⟨D144.rf, hM⟩
      rw [show k - bare G ou row node i j p q = k by unfold bare; rw [if_pos hm]; rfl] at g
      exact g
    · rw [if_neg hm]
      have eb : bare G ou row node i j p q = wW G ou row 0 node i j p q := by unfold bare; rw [if_neg hm]
      obtain ⟨g1, x1, D1, M1⟩ := M_waysOf_ok W (d := e' + 1) hh.1 (by omega) Rp hM
      have g := guest x d' rfl g1 ⟨D1, M1⟩
      rw [eb] at g hb
      rw [x1, ob_some]
      show Laid (laA (M_lays_G (e' + 1)) (e' + 1) s node i j p q k (capN (wW G ou row 0 node i j p q)) g1) h G ou row _ s node i j p q st
      unfold laA
      rw [if_pos ((cap_le hk).mpr hb), cap_sub hk hb]
      exact g
end
