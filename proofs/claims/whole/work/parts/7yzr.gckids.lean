/-! grammar: the class reads the parts of a branch -/
def bodyL : Int × Hp → Option ((Int × Hp) ⊕ Hp) := fun q => GR_readLine_L69 7 q.1 q.2
def CRes (h : Hp) (Q tl : Int) (tp : Int → Int) (T b rl p N c u cur : Int) (P : List Int) (t : Int) (z : PRs) : Prop := ∃ (k : Nat) (h' : Hp), runN bodyL k (t, h) (t + k, h') ∧ TRes h Q tl tp T b rl p N c u cur P h' z ∧ t + k ≤ 400 ∧ ∀ d q fx, z = .inr (d, q, fx) → t + k < q
theorem ob_id {α : Type} (x : Option α) : ob x (fun r => some r) = x := by cases x <;> rfl
section
variable {h h' h'' : Hp} {Q tl T b rl p N c k l t : Int} {tp : Int → Int} {fo : Bool} {P A : List Int} {a s a' s' : Nat}
theorem turn1 (t0 : 0 ≤ t) (t1 : t < 400) (h5 : h 7 5 ≠ -1) (h0 : h 7 0 = 0) (e : GR_readPart 7 h = some h') : runN bodyL 1 (t, h) (t + ((1 : Nat) : Int), h') := by
  refine ⟨(t + 1, h'), ?_, rfl⟩
  show GR_readLine_L69 7 t h = _
  unfold GR_readLine_L69
  rw [if_neg (by omega), if_pos kK_7, if_neg h5, if_pos h0, e, ob_some, show w32 (t + 1) = t + 1 by unfold w32; omega]
theorem run_tr {k m : Nat} {h1 h2 : Hp} (x : runN bodyL k (t, h) (t + k, h1)) (y : runN bodyL m (t + k, h1) (t + k + m, h2)) : runN bodyL (k + m) (t, h) (t + ((k + m : Nat) : Int), h2) := by
  have := runN_tr k m _ _ _ x y
  rw [show t + (k : Int) + (m : Int) = t + ((k + m : Nat) : Int) by omega] at this
  exact this
theorem Eff.cut {M : Int} (F : Eff Q h h' M N (N :: P) a s) (NM : N ≤ M) : Eff Q h h' N N P a s := by
  intro n n0 n1
  obtain ⟨q1, q2, q3, q4, q5⟩ := F n n0 (by omega)
  have hN : n ∈ N :: P ↔ n ∈ P := ⟨fun z => (List.mem_cons.mp z).resolve_left (by omega), fun z => List.mem_cons_of_mem _ z⟩
  refine ⟨q1, q2, fun z => absurd z (by omega), ?_, ?_⟩
  · rw [q4]
    by_cases z : n ∈ P
    · rw [if_pos z, if_pos (hN.mpr z)]
    · rw [if_neg z, if_neg (fun v => z (hN.mp v))]
  · rw [q5]
    by_cases z : n ∈ P ∧ 1 ≤ s
    · rw [if_pos z, if_pos ⟨hN.mpr z.1, z.2⟩]
    · rw [if_neg z, if_neg (fun v => z ⟨hN.mp v.1, v.2⟩)]
theorem Eff.sum (F : Eff Q h h' N c P a s) (F' : Eff Q h' h'' N N P a' s') : Eff Q h h'' N c P (a + a') (s + s') := by
  intro n n0 n1
  obtain ⟨q1, q2, q3, q4, q5⟩ := F n n0 n1
  obtain ⟨r1, r2, r3, r4, r5⟩ := F' n n0 n1
  have r2 := r2 (by omega)
  refine ⟨⟨by rw [r1.1, q1.1], by rw [r1.2.1, q1.2.1], by rw [r1.2.2.1, q1.2.2.1], by rw [r1.2.2.2.1, q1.2.2.2.1], by rw [r1.2.2.2.2, q1.2.2.2.2]⟩, fun z => ?_, fun z => ?_, ?_, ?_⟩
  · rw [r2.1, r2.2]; exact q2 z
  · rw [r2.1, r2.2]; exact q3 z
  · rw [r4, q4]
    by_cases z : n ∈ P
    · rw [if_pos z, if_pos z, if_pos z]; omega
    · rw [if_neg z, if_neg z, if_neg z]; omega
  · rw [r5, q5]
    by_cases z : n ∈ P
    · by_cases y : 1 ≤ s'
      · rw [if_pos ⟨z, y⟩, if_pos ⟨z, by omega⟩]
      · rw [if_neg (fun v => y v.2)]
        by_cases x : 1 ≤ s
        · rw [if_pos ⟨z, x⟩, if_pos ⟨z, by omega⟩]
        · rw [if_neg (fun v => x v.2), if_neg (fun v => by omega)]
    · rw [if_neg (fun v => z v.1), if_neg (fun v => z v.1), if_neg (fun v => z v.1)]
/-- all parts but branches, and what can't be one -/
theorem part_leaf (C : CS h Q tl tp T b rl p N fo) (h5 : h 7 5 = c) (Pc : Pth (h (Q + 8)) b c A) (c1 : c < N) (bN : b < N) (h7 : h (Q + 7) c = -1) (h6 : h (Q + 6) c = -1 ∨ tpC tl tp p ≠ 41) (h40 : ¬ tpC tl tp p = 40) (f : Nat) : ∃ h', GR_readPart 7 h = some h' ∧ TRes h Q tl tp T b rl p N c c c (c :: A) h' (gP tl tp (f + 1) false b rl p N fo) := by
  obtain ⟨X, e1, e2, e3, O, G⟩ := C.1
  obtain ⟨g0, g1, g2, g3, g4, g5, g6, g7, gr⟩ := GrO_k O
  have cb := (Pth_in A c Pc).2 c List.mem_cons_self
  have bd := C.2.2.2.2.1
  have nn := C.2.1.1.2.2.2.1
  obtain ⟨er, tr⟩ := C.bad (c := c) (u := c) (cur := c) (P := c :: A) (v := 1) (by decide)
  unfold GR_readPart GR_readPart_j92
  rw [if_pos kK_7, C.sign, ob_some, ob_some, ob_some, ob_some, ob_some, e3, if_pos g0]
  by_cases h41 : tpC tl tp p = 41
  · have z6 : h (Q + 6) c = -1 := h6.resolve_right (fun z => z h41)
    rw [if_pos h41]
    unfold GR_readClosing
    rw [if_pos kK_7, e3, if_pos g0, G.2.2.2.2.2.1, h5, if_pos (show kK (Q + 6) = 21 ∧ (0 : Int) ≤ c ∧ c < kL (Q + 6) from ⟨g6.1, by omega, by rw [g6.2]; omega⟩), if_pos z6, er, ob_some, ob_some]
    refine ⟨_, rfl, ?_⟩
    unfold gP
    have hl : ¬ isLb (tpC tl tp p) = true := by rw [h41]; decide
    have ht : ¬ isLt (tpC tl tp p) = true := by rw [h41]; decide
    rw [if_neg h40, if_neg hl, if_neg ht, if_neg (by omega)]
    exact tr
  · rw [if_neg h41, G.2.2.2.2.2.2.1, h5, if_pos (show kK (Q + 7) = 21 ∧ (0 : Int) ≤ c ∧ c < kL (Q + 7) from ⟨g7.1, by omega, by rw [g7.2]; omega⟩), if_pos h7, if_neg h40, gr_label, ob_some, gr_letter, ob_some]
    by_cases hl : isLb (tpC tl tp p) = true
    · rw [if_pos hl, if_neg (by decide)]
      obtain ⟨h', e, z⟩ := readLabelled_ok C h5 Pc c1 bN hl f
      rw [e, ob_some]
      exact ⟨h', rfl, z⟩
    · rw [if_neg hl, if_pos rfl]
      by_cases ht : isLt (tpC tl tp p) = true
      · rw [if_pos ht, if_neg (by decide), if_pos kK_7]
        obtain ⟨h', e, z⟩ := readSign_ok C h5 Pc c1 bN h40 hl (Or.inl ht) f
        rw [e, ob_some]
        exact ⟨h', rfl, z⟩
      · rw [if_neg ht, if_pos rfl]
        by_cases h46 : tpC tl tp p = 46
        · rw [if_pos h46, if_pos kK_7]
          obtain ⟨h', e, z⟩ := readSign_ok C h5 Pc c1 bN h40 hl (Or.inr h46) f
          rw [e, ob_some]
          exact ⟨h', rfl, z⟩
        · rw [if_neg h46, er, ob_some]
          refine ⟨_, rfl, ?_⟩
          unfold gP
          rw [if_neg h40, if_neg hl, if_neg ht, if_neg h46]
          exact tr
theorem part_open (C : CS h Q tl tp T b rl p N fo) (h5 : h 7 5 = c) (c0 : 0 ≤ c) (c1 : c < N) (h7 : h (Q + 7) c = -1) (h40 : tpC tl tp p = 40) : GR_readPart 7 h = GR_readOpening 7 h := by
  obtain ⟨X, e1, e2, e3, O, G⟩ := C.1
  obtain ⟨g0, g1, g2, g3, g4, g5, g6, g7, gr⟩ := GrO_k O
  have nn := C.2.1.1.2.2.2.1
  unfold GR_readPart
  rw [if_pos kK_7, C.sign, ob_some, ob_some, e3, if_pos g0, if_neg (by omega), G.2.2.2.2.2.2.1, h5, if_pos (show kK (Q + 7) = 21 ∧ (0 : Int) ≤ c ∧ c < kL (Q + 7) from ⟨g7.1, by omega, by rw [g7.2]; omega⟩), if_pos h7, if_pos h40, ob_id]
theorem part_full (C : CS h Q tl tp T b rl p N fo) (h5 : h 7 5 = c) (c0 : 0 ≤ c) (c1 : c < N) (h7 : h (Q + 7) c ≠ -1) (h41 : tpC tl tp p ≠ 41) : GR_readPart 7 h = some (rfX h 1) := by
  obtain ⟨X, e1, e2, e3, O, G⟩ := C.1
  obtain ⟨g0, g1, g2, g3, g4, g5, g6, g7, gr⟩ := GrO_k O
  have nn := C.2.1.1.2.2.2.1
  unfold GR_readPart
  rw [if_pos kK_7, C.sign, ob_some, e3, if_pos g0, if_neg h41, G.2.2.2.2.2.2.1, h5, if_pos (show kK (Q + 7) = 21 ∧ (0 : Int) ≤ c ∧ c < kL (Q + 7) from ⟨g7.1, by omega, by rw [g7.2]; omega⟩), if_neg h7, gr_refuse, ob_some]
  rfl
/-- a branch that isn't the root is closed -/
theorem part_close {u : Int} (C : CS h Q tl tp T b rl p N fo) (h5 : h 7 5 = c) (c0 : 0 ≤ c) (c1 : c < N) (h6 : h (Q + 6) c ≠ -1) (h8 : h (Q + 8) c = u) (u0 : u ≠ -1) (h41 : tpC tl tp p = 41) : GR_readPart 7 h = some (hput (hput h 7 5 u) 7 4 (blA tl tp (p + 1))) := by
  obtain ⟨X, e1, e2, e3, O, G⟩ := C.1
  obtain ⟨g0, g1, g2, g3, g4, g5, g6, g7, g8, gr⟩ := GrO_k O
  have nn := C.2.1.1.2.2.2.1
  unfold GR_readPart GR_readClosing GR_readClosing_j51
  rw [if_pos kK_7, C.sign, ob_some, if_pos h41, if_pos kK_7, e3, if_pos g0, G.2.2.2.2.2.1, h5, if_pos (show kK (Q + 6) = 21 ∧ (0 : Int) ≤ c ∧ c < kL (Q + 6) from ⟨g6.1, by omega, by rw [g6.2]; omega⟩), if_neg h6, G.2.2.2.2.2.2.2.1, if_pos (show kK (Q + 8) = 21 ∧ (0 : Int) ≤ c ∧ c < kL (Q + 8) from ⟨g8.1, by omega, by rw [g8.2]; omega⟩), h8, if_neg u0, if_pos kK_7, if_pos g0, if_pos (show kK (Q + 8) = 21 ∧ (0 : Int) ≤ c ∧ c < kL (Q + 8) from ⟨g8.1, by omega, by rw [g8.2]; omega⟩)]
  simp only
  rw [((C.cur (v := u)).goOn (by omega)).1, ob_some, ob_some]
end
section
variable {h h' h'' : Hp} {Q tl T b rl p N c k l t : Int} {tp : Int → Int} {fo : Bool} {P A : List Int}
def PartOK (Q tl : Int) (tp : Int → Int) (f : Nat) : Prop := ∀ (T b rl p N : Int) (fo : Bool) (h : Hp) (c : Int) (A : List Int) (t : Int), CS h Q tl tp T b rl p N fo → h 7 5 = c → Pth (h (Q + 8)) b c A → c < N → b < N → h (Q + 7) c = -1 → (h (Q + 6) c = -1 ∨ tpC tl tp p ≠ 41) → 0 ≤ t → t < p → 0 < f → tl - p < f → CRes h Q tl tp T b rl p N c c c (c :: A) t (gP tl tp f false b rl p N fo)
theorem kids {f : Nat} {lab m : Int} (IH : PartOK Q tl tp f) (C : CS h Q tl tp T b rl p (N + 1) fo) (h5 : h 7 5 = N) (Pn : Pth (h (Q + 8)) b N P) (w : Nw h Q T N 0 lab m c 0 0) (hl : 0 ≤ lab ∧ lab < 26) (hm : 0 ≤ m ∧ m ≤ 2) (t0 : 0 ≤ t) (tq : t < p) (f0 : 0 < f) (hf : tl - p < f) : CRes h Q tl tp T b rl p N N c N P t (kdR tl tp f b rl p N fo (lab + 26 * m)) := by
  obtain ⟨w2, w3, w4, w5, w6, w7, w8, w9, w10⟩ := w
  have bN := (Pth_in P N Pn).2 N List.mem_cons_self
  have b0 := C.2.2.2.2.1.1
  obtain ⟨k1, h1, r1, R1, k400, kq⟩ := IH T b rl p (N + 1) fo h N P t C h5 Pn (by omega) (by omega) w7 (Or.inl w6) t0 tq f0 hf
  unfold kdR
  cases hx : gP tl tp f false b rl p (N + 1) fo with
  | inl z =>
    rw [hx] at R1
    exact ⟨k1, h1, r1, TRes_l' R1, k400, fun d q fx e => absurd e (by simp)⟩
  | inr z =>
    obtain ⟨x, p3, fo1⟩ := z
    rw [hx] at R1
    obtain ⟨C1, c5, E1, H1, tr1, fr1, pl1⟩ := TRes_r' R1
    have kq1 := kq x p3 fo1 hx
    have ft1 := gP_ft f false b rl p (N + 1) fo x p3 fo1 hx
    have gi1 := gP_in (tl := tl) (tp := tp) f false b rl p (N + 1) fo x p3 fo1 (by omega) hx
    have ftx : ftT x ≤ 1 := by
      cases hfo : fo with
      | true => have := (ft1.1 hfo).1; omega
      | false => rw [ft1.2 hfo]; split <;> decide
    obtain ⟨n1, _, n3, n4, n5⟩ := E1 N (by omega) (by omega)
    have n3 := (n3 rfl).1 w6
    rw [w7] at n3
    rw [w9, if_pos List.mem_cons_self] at n4
    have n5' : h1 (Q + 10) N = ((ftT x : Nat) : Int) := by
      rw [n5, w10]
      by_cases z : 1 ≤ ftT x
      · rw [if_pos ⟨List.mem_cons_self, z⟩]; omega
      · rw [if_neg (fun v => z v.2)]; omega
    rw [w2, w3, w4, w5, w8] at n1
    have P1 : Pth (h1 (Q + 8)) b N P := Pth_eq P N Pn (fun y y0 y1 => (E1 y (by omega) (by omega)).1.2.2.2.2)
    have lab' : (lab + 26 * m) % 26 = lab ∧ (lab + 26 * m) / 26 = m := by omega
    simp only
    by_cases h41 : tpC tl tp p3 = 41
    · rw [if_pos h41]
      refine ⟨k1, h1, r1, TRes_r ⟨?_, c5, E1.cut (by omega), ⟨?_, H1⟩, ?_, fr1, pl1⟩, k400, fun d q fx e => ?_⟩
      · have : N + ((szT (.intMul (lab + 26 * m) x) : Nat) : Int) = N + 1 + szT x := by show N + ((szT x + 1 : Nat) : Int) = _; omega
        rw [this]; exact C1
      · rw [lab'.1, lab'.2]
        refine ⟨⟨n1.2.1, n1.2.2.1, n1.2.2.2.1, n3.1, n3.2, n1.2.2.2.2⟩, fun _ => hl, hm, fun _ => ⟨?_, n5'⟩⟩
        show h1 (Q + 9) N = ((ltT x : Nat) : Int)
        rw [n4]; simp
      · intro n z0 z1
        have z1 : n < N + ((szT x + 1 : Nat) : Int) := z1
        by_cases hn : n = N
        · rw [hn]; exact n1.1
        · exact tr1 n (by omega) (by omega)
      · injection e with e
        injection e with e1 e2
        injection e2 with e2 e3
        rw [← e2]; exact kq1
    · rw [if_neg h41]
      have r1' := r1
      obtain ⟨k2, h2, r2, R2, k400', kq'⟩ := IH T b rl p3 (N + 1 + szT x) fo1 h1 N P (t + k1) C1 c5 P1 (by omega) (by omega) n3.2 (Or.inr h41) (by omega) kq1 f0 (by omega)
      have rr := run_tr r1 r2
      cases hy : gP tl tp f false b rl p3 (N + 1 + szT x) fo1 with
      | inl z =>
        rw [hy] at R2
        obtain ⟨a1, a2, a3, a4, a5⟩ := TRes_l' R2
        exact ⟨k1 + k2, h2, rr, ⟨a1, a2, a3, a4, fr1.tr a5⟩, by omega, fun d q fx e => absurd e (by simp)⟩
      | inr z =>
        obtain ⟨y, p4, fo2⟩ := z
        rw [hy] at R2
        obtain ⟨C2, d5, E2, H2, tr2, fr2, pl2⟩ := TRes_r' R2
        have kq2 := kq' y p4 fo2 hy
        have ft2 := gP_ft f false b rl p3 (N + 1 + szT x) fo1 y p4 fo2 hy
        have fty : ftT y ≤ 1 ∧ (1 ≤ ftT y → ftT x = 0) := by
          cases hfo : fo1 with
          | true => have := (ft2.1 hfo).1; omega
          | false =>
            have q1 := ft2.2 hfo
            refine ⟨by rw [q1]; split <;> decide, fun _ => ?_⟩
            cases hf0 : fo with
            | true => exact (ft1.1 hf0).1
            | false => rw [ft1.2 hf0, hfo]; rfl
        obtain ⟨m1, _, m3, m4, m5⟩ := E2 N (by omega) (by omega)
        have m3 := (m3 rfl).2 (by rw [n3.1]; omega)
        rw [n3.1] at m3
        rw [n4, if_pos List.mem_cons_self] at m4
        have m5' : h2 (Q + 10) N = ((ftT x + ftT y : Nat) : Int) := by
          rw [m5, n5']
          by_cases z : 1 ≤ ftT y
          · have := fty.2 z
            rw [if_pos ⟨List.mem_cons_self, z⟩]; omega
          · rw [if_neg (fun v => z v.2)]; omega
        rw [n1.1, n1.2.1, n1.2.2.1, n1.2.2.2.1, n1.2.2.2.2] at m1
        have nin : ∀ n, N < n → n ∉ N :: P := fun n hn hm => by
          have := (Pth_in P N Pn).2 n hm
          omega
        have Hx : Hd true (RX h2 Q) x (N + 1) N := by
          refine Hd_eq x _ _ H1 (fun i n i0 i1 z0 z1 => ?_)
          obtain ⟨q1, q2, q3, q4, q5⟩ := E2 n (by omega) z1
          have q2 := q2 (by omega)
          have ni := nin n (by omega)
          rw [if_neg ni] at q4
          rw [if_neg (fun v => ni v.1)] at q5
          show h2 (Q + (3 + i)) n = h1 (Q + (3 + i)) n
          have : i = 0 ∨ i = 1 ∨ i = 2 ∨ i = 3 ∨ i = 4 ∨ i = 5 ∨ i = 6 ∨ i = 7 := by omega
          rcases this with rfl | rfl | rfl | rfl | rfl | rfl | rfl | rfl
          · exact q1.2.1
          · exact q1.2.2.1
          · exact q1.2.2.2.1
          · exact q2.1
          · exact q2.2
          · exact q1.2.2.2.2
          · show h2 (Q + 9) n = h1 (Q + 9) n
            rw [q4]; simp
          · exact q5
        simp only
        have sz : N + ((szT (.add x (.intMul (lab + 26 * m) y)) : Nat) : Int) = N + 1 + szT x + szT y := by show N + ((szT x + (szT y + 1) : Nat) : Int) = _; omega
        refine ⟨k1 + k2, h2, rr, TRes_r ⟨?_, d5, ?_, ⟨?_, Hx, H2⟩, ?_, fr1.tr fr2, by omega⟩, by omega, fun d q fx e => ?_⟩
        · rw [sz]; exact C2
        · exact (E1.cut (by omega)).sum (E2.cut (by omega))
        · rw [lab'.1, lab'.2]
          refine ⟨⟨m1.2.1, m1.2.2.1, m1.2.2.2.1, m3.1, m3.2, m1.2.2.2.2⟩, fun _ => hl, hm, fun _ => ⟨?_, m5'⟩⟩
          show h2 (Q + 9) N = ((ltT x + ltT y : Nat) : Int)
          rw [m4]; simp
        · intro n z0 z1
          rw [sz] at z1
          by_cases hn : n = N
          · rw [hn]; exact m1.1
          · by_cases hx' : n < N + 1 + szT x
            · rw [(E2 n (by omega) hx').1.1]; exact tr1 n (by omega) (by omega)
            · exact tr2 n (by omega) (by omega)
        · injection e with e
          injection e with e1 e2
          injection e2 with e2 e3
          rw [← e2]; omega
end
