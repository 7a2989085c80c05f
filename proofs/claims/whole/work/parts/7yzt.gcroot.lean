/-! grammar: a tree's root is closed -/
def lckB (x : Dv) : Bool := decide (ltT x = 0 ∧ (1 ≤ ftT x ∨ 1 ≤ ktT 4 x))
theorem loopN_end {σ ρ : Type} {body : σ → Option (σ ⊕ ρ)} {m : Nat} {s : σ} {r : ρ} (e : body s = some (.inr r)) : loopN body (m + 1) s = some r := by
  unfold loopN
  rw [e]
def rtR (tl : Int) (tp : Int → Int) : PRs → PRs
  | .inl e => .inl e
  | .inr (x, p3, fo1) => if tpC tl tp p3 = 41 then (if lckB x = true then .inl (4, p3) else .inr (x, blA tl tp (p3 + 1), fo1)) else .inl (1, p3)
section
variable {h h' h'' : Hp} {Q tl T b rl p N c k l t : Int} {tp : Int → Int} {fo : Bool} {P A : List Int}
theorem places_ok (O : GrO Q) (G : GShp h Q) {a z : Int} (t0 : 0 ≤ t) (t1 : t < 8) (ha : h (Q + 1) t = a) (hz : h (Q + 1) (t + 1) = z) (a0 : 0 ≤ a) (az : a ≤ z) (z1 : z ≤ 40) : ∃ v, Gr_placesOf Q t h = some v ∧ (0 < v ↔ ∃ n, a ≤ n ∧ n < z ∧ h (Q + 3) n = 4) := by
  obtain ⟨g0, g1, g2, g3, gr⟩ := GrO_k O
  have wt : w32 (t + 1) = t + 1 := by unfold w32; omega
  obtain ⟨r, e, pr⟩ := loop_ok (body := fun q => Gr_placesOf_L9 Q t h q.1 q.2) (fun q => (0 ≤ q.1 ∧ q.1 ≤ q.2) ∧ a ≤ q.2 ∧ q.2 ≤ z ∧ (0 < q.1 ↔ ∃ n, a ≤ n ∧ n < q.2 ∧ h (Q + 3) n = 4)) (fun q => (z - q.2).toNat) (fun v => 0 < v ↔ ∃ n, a ≤ n ∧ n < z ∧ h (Q + 3) n = 4) (by
    rintro ⟨v, n⟩ ⟨v0, n0, n1, iv⟩
    simp only at v0 n0 n1 iv
    simp only
    unfold Gr_placesOf_L9 Gr_placesOf_j34
    rw [if_pos g0, G.1, wt, if_pos ⟨g1.1, by omega, by rw [g1.2]; omega⟩, hz]
    by_cases hn : z ≤ n
    · right
      rw [if_pos hn]
      exact ⟨_, rfl, by rw [show z = n by omega]; exact iv⟩
    · left
      rw [if_neg hn, G.2.2.1, if_pos (show kK (Q + 3) = 21 ∧ (0 : Int) ≤ n ∧ n < kL (Q + 3) from ⟨g3.1, by omega, by rw [g3.2]; omega⟩), show w32 (n + 1) = n + 1 by unfold w32; omega, show w32 (v + 1) = v + 1 by unfold w32; omega]
      refine ⟨_, rfl, ⟨?_, by simp only; omega, by simp only; omega, ?_⟩, by simp only; omega⟩
      · simp only
        split <;> omega
      · simp only
        by_cases h4 : h (Q + 3) n = 4
        · rw [if_pos h4]
          exact ⟨fun _ => ⟨n, n0, by omega, h4⟩, fun _ => by omega⟩
        · rw [if_neg h4, iv]
          constructor
          · rintro ⟨m, m0, m1, q⟩
            exact ⟨m, m0, by omega, q⟩
          · rintro ⟨m, m0, m1, q⟩
            have : m ≠ n := fun z => h4 (by rw [← z]; exact q)
            exact ⟨m, m0, by omega, q⟩) LN (0, a) ⟨⟨Int.le_refl _, a0⟩, Int.le_refl _, az, ⟨fun q => by simp only at q; omega, fun ⟨n, q0, q1, _⟩ => by simp only at q1; omega⟩⟩ (by unfold LN; simp only; omega)
  refine ⟨r, ?_, pr⟩
  unfold Gr_placesOf
  rw [if_pos g0, G.1, if_pos ⟨g1.1, t0, by rw [g1.2]; omega⟩, ha, e, ob_some]
theorem lacks_ok {x : Dv} {u : Int} (C : CS h Q tl tp T N rl p (N + szT x) fo) (h5 : h 7 5 = N) (H : Hd true (RX h Q) x N u) (h9 : h (Q + 9) N = ltT x) (h10 : h (Q + 10) N = ftT x) : GR_lacksLetter 7 h = some (if lckB x = true then 1 else 0) := by
  obtain ⟨X, e1, e2, e3, O, G⟩ := C.1
  obtain ⟨g0, g1, g2, g3, g4, g5, g6, g7, g8, g9, g10, gr⟩ := GrO_k O
  obtain ⟨tt, x0, x1, nn, xT, rows⟩ := C.2.1.1
  have bd := C.2.2.2.2.1
  have hb := C.2.2.2.1
  have T1 := C.2.2.1
  have sz := szT_pos x
  unfold GR_lacksLetter GR_lacksLetter_j55
  rw [if_pos kK_7, e3, if_pos g0, G.2.2.2.2.2.2.2.2.1, h5, if_pos (show kK (Q + 9) = 21 ∧ (0 : Int) ≤ N ∧ N < kL (Q + 9) from ⟨g9.1, by omega, by rw [g9.2]; omega⟩), h9]
  by_cases z9 : ((ltT x : Nat) : Int) = 0
  · rw [if_pos z9, G.2.2.2.2.2.2.2.2.2.1, if_pos (show kK (Q + 10) = 23 ∧ (0 : Int) ≤ N ∧ N < kL (Q + 10) from ⟨g10.1, by omega, by rw [g10.2]; omega⟩), h10]
    by_cases z10 : ((ftT x : Nat) : Int) = 0
    · rw [if_pos z10, x0, show w32 (T - 1) = T - 1 by unfold w32; omega]
      obtain ⟨v, e, iv⟩ := places_ok (t := T - 1) O G (by omega) (by omega) hb (show h (Q + 1) (T - 1 + 1) = N + szT x by rw [show T - 1 + 1 = T by omega]; exact xT) (by omega) (by omega) (by omega)
      rw [e, ob_some]
      by_cases hv : v ≤ 0
      · rw [if_pos hv, if_neg]
        intro w
        unfold lckB at w
        have w := of_decide_eq_true w
        have k4 : 1 ≤ ktT 4 x := by omega
        obtain ⟨n, n0, n1, q⟩ := kt_ex (Or.inr (Or.inr rfl)) x N u H k4
        have := iv.mpr ⟨n, n0, n1, q⟩
        omega
      · rw [if_neg hv, if_pos]
        unfold lckB
        obtain ⟨n, n0, n1, q⟩ := iv.mp (by omega)
        have := kt_of (k := 4) H n0 n1 q (Or.inr (Or.inr rfl))
        exact decide_eq_true (by omega)
    · rw [if_neg z10, if_pos]
      unfold lckB
      exact decide_eq_true (by omega)
  · rw [if_neg z9, if_neg]
    intro w
    unfold lckB at w
    have w := of_decide_eq_true w
    omega
theorem bodyL_end {t : Int} (h0 : h 7 0 ≠ 0 ∨ h 7 5 = -1) : bodyL (t, h) = some (.inr h) := by
  show GR_readLine_L69 7 t h = _
  unfold GR_readLine_L69
  by_cases z : 400 ≤ t
  · rw [if_pos z]
  · rw [if_neg z, if_pos kK_7]
    by_cases y : h 7 5 = -1
    · rw [if_pos y]
    · rw [if_neg y, if_neg (h0.resolve_right y)]
theorem loopL {k : Nat} {s s' : Int × Hp} {r : Hp} (x : runN bodyL k s s') (e : bodyL s' = some (.inr r)) (hk : k ≤ 1000) : loopN bodyL LN s = some r := by
  have : LN = k + ((LN - k - 1) + 1) := by unfold LN; omega
  rw [this, runN_loop k _ s s' x]
  exact loopN_end e
/-- from the root's opening to its end -/
theorem root_loop {lab m : Int} (C : CS h Q tl tp T N rl p (N + 1) false) (h5 : h 7 5 = N) (w : Nw h Q T N 0 lab m (-1) 0 0) (hl : 0 ≤ lab ∧ lab < 26) (hm : 0 ≤ m ∧ m ≤ 2) (p1 : 1 ≤ p) : ∃ h', loopN bodyL LN (0, h) = some h' ∧ TRes h Q tl tp T N rl p N N (-1) (-1) [] h' (rtR tl tp (kdR tl tp 401 N rl p N false (lab + 26 * m))) := by
  have t4 := C.1.1.2.2.1
  have pp := C.2.2.2.2.2.2.2.1
  have bd := C.2.2.2.2.1
  have O := C.1.2.2.2.2.1
  have q22 := O.ge
  obtain ⟨k, h1, r1, R1, k400, kq⟩ := kids (t := 0) (P := []) (part_ok 401) C h5 ⟨rfl, w.2.2.2.2.2.2.1⟩ w hl hm (by omega) (by omega) (by decide) (by omega)
  cases hk : kdR tl tp 401 N rl p N false (lab + 26 * m) with
  | inl z =>
    rw [hk] at R1
    obtain ⟨a1, a2, a3, a4, a5⟩ := TRes_l' R1
    exact ⟨h1, loopL r1 (bodyL_end (Or.inl (by rw [a2]; exact a1))) (by omega), ⟨a1, a2, a3, a4, a5⟩⟩
  | inr z =>
    obtain ⟨x, p3, fo1⟩ := z
    rw [hk] at R1
    obtain ⟨C1, d5, E1, H1, tr1, fr1, pl1⟩ := TRes_r' R1
    have kq1 := kq x p3 fo1 hk
    have sz := szT_pos x
    obtain ⟨x0, x3, x5, x4⟩ := br_rows (kdR_form hk) H1
    have x3 : h1 (Q + 6) N = N + 1 := x3
    have x5 : h1 (Q + 8) N = -1 := x5
    have pp1 := C1.2.2.2.2.2.2.2.1
    have x67 : h1 (Q + 9) N = ltT x ∧ h1 (Q + 10) N = ftT x := by
      rcases kdR_form hk with ⟨y, rfl, _⟩ | ⟨y, z, rfl⟩
      · exact H1.1.2.2.2 rfl
      · exact H1.1.2.2.2 rfl
    show ∃ h', loopN bodyL LN (0, h) = some h' ∧ TRes h Q tl tp T N rl p N N (-1) (-1) [] h' (if tpC tl tp p3 = 41 then (if lckB x = true then .inl (4, p3) else .inr (x, blA tl tp (p3 + 1), fo1)) else .inl (1, p3))
    by_cases h41 : tpC tl tp p3 = 41
    · rw [if_pos h41]
      obtain ⟨X, e1, e2, e3, _, G⟩ := C1.1
      obtain ⟨g0, g1, g2, g3, g4, g5, g6, g7, g8, gr⟩ := GrO_k O
      have nn := C1.2.1.1.2.2.2.1
      have rp : GR_readPart 7 h1 = some (if lckB x = true then rfX h1 4 else hput (hput h1 7 5 (-1)) 7 4 (blA tl tp (p3 + 1))) := by
        unfold GR_readPart GR_readClosing GR_readClosing_j51
        rw [if_pos kK_7, C1.sign, ob_some, if_pos h41, if_pos kK_7, e3, if_pos g0, G.2.2.2.2.2.1, d5, if_pos (show kK (Q + 6) = 21 ∧ (0 : Int) ≤ N ∧ N < kL (Q + 6) from ⟨g6.1, by omega, by rw [g6.2]; omega⟩), if_neg (by omega), G.2.2.2.2.2.2.2.1, if_pos (show kK (Q + 8) = 21 ∧ (0 : Int) ≤ N ∧ N < kL (Q + 8) from ⟨g8.1, by omega, by rw [g8.2]; omega⟩), if_pos x5, lacks_ok C1 d5 H1 x67.1 x67.2, ob_some]
        by_cases hk' : lckB x = true
        · rw [if_pos hk', if_neg (by decide), gr_refuse, ob_some, ob_some, if_pos hk']
          rfl
        · rw [if_neg hk', if_pos rfl, if_pos kK_7, if_pos g0, if_pos (show kK (Q + 8) = 21 ∧ (0 : Int) ≤ N ∧ N < kL (Q + 8) from ⟨g8.1, by omega, by rw [g8.2]; omega⟩), x5]
          simp only
          rw [((C1.cur (v := -1)).goOn (by omega)).1, ob_some, ob_some, if_neg hk']
      have tr3 := turn1 (t := 0 + k) (by omega) (by omega) (by rw [d5]; omega) C1.2.2.2.2.2.2.1 rp
      have rr := run_tr r1 tr3
      by_cases hk' : lckB x = true
      · rw [if_pos hk'] at rr ⊢
        obtain ⟨_, bt⟩ := C1.bad (c := 0) (u := 0) (cur := 0) (P := []) (v := 4) (by decide)
        obtain ⟨a1, a2, a3, a4, a5⟩ := TRes_l' bt
        exact ⟨_, loopL rr (bodyL_end (Or.inl (by rw [a2]; exact a1))) (by omega), TRes_l ⟨a1, a2, a3, a4, fr1.tr a5⟩⟩
      · rw [if_neg hk'] at rr ⊢
        obtain ⟨_, q0, q1, C3⟩ := (C1.cur (v := -1)).goOn (by omega)
        have c5 : (hput (hput h1 7 5 (-1)) 7 4 (blA tl tp (p3 + 1))) 7 5 = -1 := by rw [hput_ne2 (by decide), hput_eq]
        refine ⟨_, loopL rr (bodyL_end (Or.inr c5)) (by omega), TRes_r ⟨C3, c5, (E1.of7 O (Of7.pt 5 (-1))).of7 O (Of7.pt 4 _), ?_, ?_, ((fr1.tr (CFr.p5 _)).tr (CFr.p4 _)), by omega⟩⟩
        · refine Hd_eq x _ _ H1 (fun i n i0 i1 _ _ => ?_)
          show (hput (hput h1 7 5 (-1)) 7 4 (blA tl tp (p3 + 1))) (Q + (3 + i)) n = h1 (Q + (3 + i)) n
          rw [hput_ne1 (by omega), hput_ne1 (by omega)]
        · intro n n0 n1
          rw [hput_ne1 (by omega), hput_ne1 (by omega)]
          exact tr1 n n0 n1
    · rw [if_neg h41]
      have x4 : N < h1 (Q + 7) N := x4 h41
      have tr3 := turn1 (t := 0 + k) (by omega) (by omega) (by rw [d5]; omega) C1.2.2.2.2.2.2.1 (part_full C1 d5 (by omega) (by omega) (by omega) h41)
      have rr := run_tr r1 tr3
      obtain ⟨_, bt⟩ := C1.bad (c := 0) (u := 0) (cur := 0) (P := []) (v := 1) (by decide)
      obtain ⟨a1, a2, a3, a4, a5⟩ := TRes_l' bt
      exact ⟨_, loopL rr (bodyL_end (Or.inl (by rw [a2]; exact a1))) (by omega), TRes_l ⟨a1, a2, a3, a4, fr1.tr a5⟩⟩
end
