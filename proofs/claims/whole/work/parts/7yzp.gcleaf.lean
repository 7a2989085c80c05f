/-! grammar: the class reads leaves, and opens branches -/
def RX (h : Hp) (Q : Int) : Gm := fun i n => h (Q + (3 + i)) n
def TRes (h : Hp) (Q tl : Int) (tp : Int → Int) (T b rl p N c u cur : Int) (P : List Int) (h' : Hp) : PRs → Prop
  | .inl z => z.1 ≠ 0 ∧ h' 7 0 = z.1 ∧ h' 7 1 = z.2 ∧ (∃ N', CB h' Q T N') ∧ CFr Q T h h'
  | .inr z => CS h' Q tl tp T b rl z.2.1 (N + szT z.1) z.2.2 ∧ h' 7 5 = cur ∧ Eff Q h h' N c P (ltT z.1) (ftT z.1) ∧ Hd true (RX h' Q) z.1 N u ∧ (∀ n, N ≤ n → n < N + szT z.1 → h' (Q + 2) n = T - 1) ∧ CFr Q T h h' ∧ p < z.2.1
section
variable {h h' h'' : Hp} {Q tl T b rl p N c k l : Int} {tp : Int → Int} {fo : Bool} {P A : List Int} {a s : Nat}
theorem TRes_l {u cur v q : Int} (x : v ≠ 0 ∧ h' 7 0 = v ∧ h' 7 1 = q ∧ (∃ N', CB h' Q T N') ∧ CFr Q T h h') : TRes h Q tl tp T b rl p N c u cur P h' (.inl (v, q)) := x
theorem TRes_r {u cur q : Int} {d : Dv} {fx : Bool} (x : CS h' Q tl tp T b rl q (N + szT d) fx ∧ h' 7 5 = cur ∧ Eff Q h h' N c P (ltT d) (ftT d) ∧ Hd true (RX h' Q) d N u ∧ (∀ n, N ≤ n → n < N + szT d → h' (Q + 2) n = T - 1) ∧ CFr Q T h h' ∧ p < q) : TRes h Q tl tp T b rl p N c u cur P h' (.inr (d, q, fx)) := x
theorem TRes_l' {u cur : Int} {z : Int × Int} (x : TRes h Q tl tp T b rl p N c u cur P h' (.inl z)) : z.1 ≠ 0 ∧ h' 7 0 = z.1 ∧ h' 7 1 = z.2 ∧ (∃ N', CB h' Q T N') ∧ CFr Q T h h' := x
theorem TRes_r' {u cur q : Int} {d : Dv} {fx : Bool} (x : TRes h Q tl tp T b rl p N c u cur P h' (.inr (d, q, fx))) : CS h' Q tl tp T b rl q (N + szT d) fx ∧ h' 7 5 = cur ∧ Eff Q h h' N c P (ltT d) (ftT d) ∧ Hd true (RX h' Q) d N u ∧ (∀ n, N ≤ n → n < N + szT d → h' (Q + 2) n = T - 1) ∧ CFr Q T h h' ∧ p < q := x
theorem Nw_Rw {m up : Int} {d : Dv} (w : Nw h Q T N k l m up a s) (hl : k ≠ 2 → 0 ≤ l ∧ l < 26) (hm : 0 ≤ m ∧ m ≤ 2) (ea : ltT d = a) (es : ftT d = s) : Rw true (RX h Q) d N k l m (-1) (-1) up := by
  obtain ⟨w2, w3, w4, w5, w6, w7, w8, w9, w10⟩ := w
  refine ⟨⟨w3, w4, w5, w6, w7, w8⟩, hl, hm, fun _ => ⟨?_, ?_⟩⟩
  · rw [ea]; exact w9
  · rw [es]; exact w10
/-- a fault at the place -/
theorem CS.bad (C : CS h Q tl tp T b rl p N fo) {u cur v : Int} (hv : v ≠ 0) : GR_refuse 7 v h = some (rfX h v) ∧ TRes h Q tl tp T b rl p N c u cur P (rfX h v) (.inl (v, p)) := by
  refine ⟨gr_refuse v, TRes_l ⟨hv, (rfX_at v).1, ?_, ⟨N, C.2.1.1.of7 C.1.2.2.2.2.1 (Of7.rx v)⟩, CFr.rx v⟩⟩
  rw [(rfX_at v).2]
  exact C.2.2.2.2.2.1
/-- a leaf's row is there; the place moves on -/
theorem leaf_tr {h1 : Hp} {d : Dv} {q : Int} {fo' : Bool} (C : CS h Q tl tp T b rl p N fo) (R : AddR Q T h h1 N c P k l a s) (N2 : N < b + 12) (bN : b < N) (hs : (s = 0 ∧ fo' = fo) ∨ (s = 1 ∧ fo' = true ∧ b ∈ P)) (h5 : h 7 5 = c) (hl : k ≠ 2 → 0 ≤ l ∧ l < 26) (sz : szT d = 1) (ea : ltT d = a) (es : ftT d = s) (hd : ∀ (G : Gm) (u : Int), Rw true G d N k l 0 (-1) (-1) u → Hd true G d N u) (q0 : p < q) (q1 : q ≤ tl) : TRes h Q tl tp T b rl p N c c c P (hput h1 7 4 q) (.inr (d, q, fo')) := by
  have O := C.1.2.2.2.2.1
  have p0 := C.2.2.2.2.2.2.2.1.1
  have C1 := C.add R N2 bN hs
  obtain ⟨w, F, fr, cb, lb, e7⟩ := R
  have w' := w.of7 O (Of7.pt (h := h1) 4 q)
  refine TRes_r ⟨?_, ?_, ?_, ?_, ?_, fr.tr (CFr.p4 q), q0⟩
  · rw [sz]; exact C1.go (by omega) q1
  · rw [hput_ne2 (by decide), e7]; exact h5
  · rw [ea, es]; exact F.of7 O (Of7.pt 4 q)
  · exact hd _ _ (Nw_Rw w' hl (by decide) ea es)
  · intro n n0 n1
    rw [sz] at n1
    rw [show n = N by omega]
    exact w'.1
theorem readSign_ok (C : CS h Q tl tp T b rl p N fo) (h5 : h 7 5 = c) (Pc : Pth (h (Q + 8)) b c A) (c1 : c < N) (bN : b < N) (h40 : ¬ tpC tl tp p = 40) (hl : ¬ isLb (tpC tl tp p) = true) (hs : isLt (tpC tl tp p) = true ∨ tpC tl tp p = 46) (f : Nat) : ∃ h', GR_readSign 7 h = some h' ∧ TRes h Q tl tp T b rl p N c c c (c :: A) h' (gP tl tp (f + 1) false b rl p N fo) := by
  have E := C.1
  obtain ⟨X, e1, e2, e3, O, G⟩ := E
  have g0 := (GrO_k O).1
  have s1 : tpC tl tp p ≠ -1 := by
    rcases hs with z | z
    · have := lt_in z; omega
    · omega
  have cb := (Pth_in A c Pc).2 c List.mem_cons_self
  have bd := C.2.2.2.2.1
  unfold gP GR_readSign GR_readSign_j60
  rw [if_neg h40, if_neg hl, if_pos kK_7, e3, if_pos g0, C.room, ob_some]
  by_cases hr : rmN b N = false
  · have hr' : ¬ rmN b N = true := by rw [hr]; decide
    rw [if_neg hr', if_pos rfl]
    obtain ⟨er, tr⟩ := C.bad (c := c) (u := c) (cur := c) (P := c :: A) (v := 3) (by decide)
    rw [er, ob_some]
    refine ⟨_, rfl, ?_⟩
    rcases hs with z | z
    · rw [if_pos z, if_pos hr]; exact tr
    · have z' : ¬ isLt (tpC tl tp p) = true := by rw [z]; decide
      rw [if_neg z', if_pos z, if_pos hr]; exact tr
  · have hr' : rmN b N = true := by simpa using hr
    have rb : N < 40 ∧ N - b < 12 := by unfold rmN at hr'; simpa using hr'
    rw [if_pos hr', if_neg (by decide), C.sign, ob_some, ob_some, h5]
    obtain ⟨_, q0, q1, _⟩ := C.goOn s1
    by_cases h46 : tpC tl tp p = 46
    · have z' : ¬ isLt (tpC tl tp p) = true := by rw [h46]; decide
      obtain ⟨h1, ea, R⟩ := add_n (P := c :: A) (k := 2) (l := -1) O G C.2.1.1 C.2.1.2 C.2.2.1 C.2.2.2.1 bd.1 bd.2.1 rb.1 (Or.inr ⟨by omega, c1⟩) (by decide)
      have C1 := C.add (fo' := fo) R (by omega) bN (Or.inl ⟨rfl, rfl⟩)
      rw [if_pos h46, ea, ob_some]
      simp only
      rw [if_pos kK_7, (C1.goOn s1).1, ob_some, if_neg z', if_pos h46, if_neg hr]
      exact ⟨_, rfl, leaf_tr C R (by omega) bN (Or.inl ⟨rfl, rfl⟩) h5 (fun z => absurd rfl z) rfl rfl rfl (fun G u z => z) q0 q1⟩
    · have ht : isLt (tpC tl tp p) = true := hs.resolve_right h46
      have li := lt_in ht
      have toI : ((tpC tl tp p - 97).toNat : Int) = tpC tl tp p - 97 := by omega
      obtain ⟨h1, ea, R⟩ := add_l (l := tpC tl tp p - 97) O G C.2.1.1 C.2.1.2 C.2.2.1 C.2.2.2.1 bd.1 bd.2.1 rb.1 (by omega) c1 Pc (by omega) (by omega)
      have C1 := C.add (fo' := fo) R (by omega) bN (Or.inl ⟨rfl, rfl⟩)
      rw [if_neg h46, show w32 (tpC tl tp p - 97) = tpC tl tp p - 97 by unfold w32; omega, ea, ob_some, if_pos kK_7, (C1.goOn s1).1, ob_some, if_pos ht, if_neg hr]
      refine ⟨_, rfl, leaf_tr C R (by omega) bN (Or.inl ⟨rfl, rfl⟩) h5 (fun _ => by omega) rfl rfl rfl (fun G u z => ?_) q0 q1⟩
      show Rw true G _ N 1 (((tpC tl tp p - 97).toNat : Nat) : Int) 0 (-1) (-1) u
      rw [toI]; exact z
theorem readLabelled_ok (C : CS h Q tl tp T b rl p N fo) (h5 : h 7 5 = c) (Pc : Pth (h (Q + 8)) b c A) (c1 : c < N) (bN : b < N) (hl : isLb (tpC tl tp p) = true) (f : Nat) : ∃ h', GR_readLabelled 7 h = some h' ∧ TRes h Q tl tp T b rl p N c c c (c :: A) h' (gP tl tp (f + 1) false b rl p N fo) := by
  have E := C.1
  obtain ⟨X, e1, e2, e3, O, G⟩ := E
  obtain ⟨g0, g1, g2, g3, g4, g5, g6, g7, g8, g9, g10, gr⟩ := GrO_k O
  have li := lb_in hl
  have cb := (Pth_in A c Pc).2 c List.mem_cons_self
  have bP := (Pth_in A c Pc).1
  have bd := C.2.2.2.2.1
  have pp := C.2.2.2.2.2.2.2.1
  have t4 := X.2.2.1
  obtain ⟨t, x0, x1, nn, xT, rows⟩ := C.2.1.1
  have hb := C.2.2.2.1
  have T1 := C.2.2.1
  have hrl := C.2.2.2.2.2.2.2.2 bN
  have wT : w32 (T - 1) = T - 1 := by unfold w32; omega
  obtain ⟨go, q0, q1, Cq⟩ := C.goOn (by omega)
  have toI : ((tpC tl tp p - 65).toNat : Int) = tpC tl tp p - 65 := by omega
  unfold GR_readLabelled
  rw [if_pos kK_7, C.sign, ob_some, e2, if_pos (by decide), C.2.2.2.2.2.1, show w32 (p + 1) = p + 1 by unfold w32; omega, tx_blanks X e1 (by omega), ob_some, tx_at X e1 (by omega), ob_some, e3, if_pos g0, G.1, x0, wT, if_pos ⟨g1.1, by omega, by rw [g1.2]; omega⟩, hb, show w32 (tpC tl tp p - 65) = tpC tl tp p - 65 by unfold w32; omega]
  generalize hq : blA tl tp (p + 1) = q at go q0 q1 Cq ⊢
  have gPe : gP tl tp (f + 1) false b rl p N fo = (if tpC tl tp q = 42 ∧ (fo = true ∨ rl ≠ tpC tl tp p - 65) then .inl (2, p)
      else if rmN b N = false then .inl (3, p)
      else if tpC tl tp q = 42 then .inr (.neg (.var (tpC tl tp p - 65).toNat), blA tl tp (q + 1), true)
      else if tpC tl tp q = 94 then .inr (.sub .zero (.var (tpC tl tp p - 65).toNat), blA tl tp (q + 1), fo)
      else .inl (1, q)) := by
    unfold gP
    rw [if_neg (by omega), if_pos hl, hq]
  rw [gPe]
  have j78 : GR_readLabelled_j78 7 h = some (rfX h 2) := by
    unfold GR_readLabelled_j78
    rw [if_pos kK_7, gr_refuse, ob_some]
    rfl
  -- behind the foot's test
  have j84 : ¬ (tpC tl tp q = 42 ∧ (fo = true ∨ rl ≠ tpC tl tp p - 65)) → ∃ h', GR_readLabelled_j84 7 (tpC tl tp p - 65) (tpC tl tp q) h = some h' ∧ TRes h Q tl tp T b rl p N c c c (c :: A) h' (if rmN b N = false then .inl (3, p)
      else if tpC tl tp q = 42 then .inr (.neg (.var (tpC tl tp p - 65).toNat), blA tl tp (q + 1), true)
      else if tpC tl tp q = 94 then .inr (.sub .zero (.var (tpC tl tp p - 65).toNat), blA tl tp (q + 1), fo)
      else .inl (1, q)) := by
    intro nf
    unfold GR_readLabelled_j84 GR_readLabelled_j155
    rw [if_pos kK_7, e3, if_pos g0, C.room, ob_some]
    by_cases hr : rmN b N = false
    · have hr' : ¬ rmN b N = true := by rw [hr]; decide
      rw [if_neg hr', if_pos rfl, if_pos hr]
      obtain ⟨er, tr⟩ := C.bad (c := c) (u := c) (cur := c) (P := c :: A) (v := 3) (by decide)
      rw [er, ob_some]
      exact ⟨_, rfl, tr⟩
    · have hr' : rmN b N = true := by simpa using hr
      have rb : N < 40 ∧ N - b < 12 := by unfold rmN at hr'; simpa using hr'
      have z3 : (hput h 7 4 q) 7 3 = Q := by rw [hput_ne2 (by decide)]; exact e3
      have z5 : (hput h 7 4 q) 7 5 = c := by rw [hput_ne2 (by decide)]; exact h5
      have z8 : ∀ n, (hput h 7 4 q) (Q + 8) n = h (Q + 8) n := fun n => hput_ne1 (by have := O.ge; omega)
      have Pq : Pth ((hput h 7 4 q) (Q + 8)) b c A := Pth_eq A c Pc (fun x _ _ => z8 x)
      have Gq := Cq.1.2.2.2.2.2
      rw [if_pos hr', if_neg (by decide), go, ob_some, if_neg hr]
      -- from the moved place on
      have mv : ∀ {d : Dv} {q' : Int} {fo' : Bool} {hh : Hp}, TRes (hput h 7 4 q) Q tl tp T b rl q N c c c (c :: A) hh (.inr (d, q', fo')) → TRes h Q tl tp T b rl p N c c c (c :: A) hh (.inr (d, q', fo')) := by
        intro d q' fo' hh z
        obtain ⟨a1, a2, a3, a4, a5, a6, a7⟩ := TRes_r' z
        exact TRes_r ⟨a1, a2, a3.of7l O (Of7.pt 4 q), a4, a5, (CFr.p4 q).tr a6, by omega⟩
      by_cases h42 : tpC tl tp q = 42
      · obtain ⟨_, r0, r1, _⟩ := Cq.goOn (by omega)
        obtain ⟨h1, ea, R⟩ := add_f (l := tpC tl tp p - 65) O Gq Cq.2.1.1 Cq.2.1.2 T1 Cq.2.2.2.1 bd.1 bd.2.1 rb.1 (by omega) c1 Pq
        have C1 := Cq.add (fo' := true) R (by omega) bN (Or.inr ⟨rfl, rfl, bP⟩)
        rw [if_pos h42, if_pos h42, z3, if_pos g0, z5, ea, ob_some, if_pos kK_7, (C1.goOn (by omega)).1, ob_some]
        refine ⟨_, rfl, mv (leaf_tr Cq R (by omega) bN (Or.inr ⟨rfl, rfl, bP⟩) z5 (fun _ => by omega) rfl rfl rfl (fun G u z => ?_) r0 r1)⟩
        show Rw true G _ N 3 (((tpC tl tp p - 65).toNat : Nat) : Int) 0 (-1) (-1) u
        rw [toI]; exact z
      · rw [if_neg h42, if_neg h42]
        by_cases h94 : tpC tl tp q = 94
        · obtain ⟨_, r0, r1, _⟩ := Cq.goOn (by omega)
          obtain ⟨h1, ea, R⟩ := add_n (P := c :: A) (k := 4) (l := tpC tl tp p - 65) O Gq Cq.2.1.1 Cq.2.1.2 T1 Cq.2.2.2.1 bd.1 bd.2.1 rb.1 (Or.inr ⟨by omega, c1⟩) (by decide)
          have C1 := Cq.add (fo' := fo) R (by omega) bN (Or.inl ⟨rfl, rfl⟩)
          rw [if_pos h94, if_pos h94, z3, if_pos g0, z5, ea, ob_some]
          simp only
          rw [if_pos kK_7, (C1.goOn (by omega)).1, ob_some]
          refine ⟨_, rfl, mv (leaf_tr Cq R (by omega) bN (Or.inl ⟨rfl, rfl⟩) z5 (fun _ => by omega) rfl rfl rfl (fun G u z => ?_) r0 r1)⟩
          show Rw true G _ N 4 (((tpC tl tp p - 65).toNat : Nat) : Int) 0 (-1) (-1) u
          rw [toI]; exact z
        · rw [if_neg h94, if_neg h94]
          obtain ⟨er, tr⟩ := Cq.bad (c := c) (u := c) (cur := c) (P := c :: A) (v := 1) (by decide)
          rw [er, ob_some]
          obtain ⟨a1, a2, a3, a4, a5⟩ := TRes_l' tr
          exact ⟨_, rfl, TRes_l ⟨a1, a2, a3, a4, (CFr.p4 q).tr a5⟩⟩
  by_cases h42 : tpC tl tp q = 42
  · rw [if_pos h42, G.2.2.2.2.2.2.2.2.2.1, if_pos (show kK (Q + 10) = 23 ∧ (0 : Int) ≤ b ∧ b < kL (Q + 10) from ⟨g10.1, by omega, by rw [g10.2]; omega⟩), hrl.2]
    obtain ⟨er, tr⟩ := C.bad (c := c) (u := c) (cur := c) (P := c :: A) (v := 2) (by decide)
    by_cases hf : fo = true
    · rw [if_pos hf, if_neg (by decide), j78, if_pos ⟨h42, Or.inl hf⟩]
      exact ⟨_, rfl, tr⟩
    · rw [if_neg hf, if_pos rfl, G.2.2.2.1, if_pos (show kK (Q + 4) = 21 ∧ (0 : Int) ≤ b ∧ b < kL (Q + 4) from ⟨g4.1, by omega, by rw [g4.2]; omega⟩), hrl.1]
      by_cases hz : rl = tpC tl tp p - 65
      · have nf : ¬ (tpC tl tp q = 42 ∧ (fo = true ∨ rl ≠ tpC tl tp p - 65)) := fun z => z.2.elim hf (fun w => w hz)
        rw [if_pos hz, if_neg nf]
        exact j84 nf
      · rw [if_neg hz, j78, if_pos ⟨h42, Or.inr hz⟩]
        exact ⟨_, rfl, tr⟩
  · have nf : ¬ (tpC tl tp q = 42 ∧ (fo = true ∨ rl ≠ tpC tl tp p - 65)) := fun z => h42 z.1
    rw [if_neg h42, if_neg nf]
    exact j84 nf
end
