/-! grammar: the reference reads marked leaves, children, branches -/
section
variable {g g' g'' : Hp} {tl b rl p N u : Int} {tp : Int → Int} {fo : Bool}
/-- a leaf that was opened, behind which the next token is taken -/
theorem leaf_end {f f1 : Hp} {k l up q : Int} {d : Dv} {fx : Bool} (F : GFr N g f) (ok : f 121 27 = 0) (f28 : f 121 28 = g 121 28) (TF : TkF f1 g') (e1 : ∀ c s, (c ≠ 121 ∨ s ≠ 30) → f1 c s = (nwM f N k l up) c s) (T : TokG g' tl tp q) (fm : FoM f1 fx) (qt : q ≤ tl) (sz : szT d = 1) (hd : ∀ R : Gm, Rw false R d N k l 0 (-1) (-1) (upT up) → Hd false R d N (upT up)) (hl : k ≠ 2 → 0 ≤ l ∧ l < 26) : g' 121 27 = 0 ∧ g' 121 12 = N + szT d ∧ TokG g' tl tp q ∧ FoM g' fx ∧ Hd false (RM g') d N (upT up) ∧ GFr N g g' ∧ q ≤ tl ∧ g' 121 28 = g 121 28 := by
  obtain ⟨n0, n1, n2, n3, n4, n5, n6⟩ := nw_at (g := f) (N := N) (k := k) (l := l) (up := up)
  have ro : ∀ c, c ≠ 121 → g' c (40 + N) = (nwM f N k l up) c (40 + N) := fun c hc => by rw [TF c _ (Or.inl hc), e1 c _ (Or.inl hc)]
  have G1 : GFr N f f1 := fun c s h1 h2 => by rw [e1 c s (by omega), GFr.nw c s h1 h2]
  refine ⟨?_, ?_, T, ?_, hd _ (RM_row (by rw [ro 123 (by decide)]; exact n0) (by rw [ro 124 (by decide)]; exact n1) (by rw [ro 125 (by decide)]; exact n2) (by rw [ro 126 (by decide), n3]; rfl) (by rw [ro 127 (by decide), n4]; rfl) (by rw [ro 128 (by decide), n5]) hl (by decide)), (F.tr G1).tr (GFr.tk TF), qt, by rw [TF 121 28 (Or.inr (by decide)), e1 121 28 (Or.inr (by decide)), nw_121 (by decide)]; exact f28⟩
  · rw [TF 121 27 (Or.inr (by decide)), e1 121 27 (Or.inr (by decide)), nw_121 (by decide)]; exact ok
  · rw [TF 121 12 (Or.inr (by decide)), e1 121 12 (Or.inr (by decide)), n6, sz]; rfl
  · have := TF 121 30 (Or.inr (by decide))
    unfold FoM at fm ⊢
    rw [this]
    exact fm
theorem readMarked_ok (M : MPre g tl tp b rl p N fo) (bN : b < N) (hl : isLb (tpC tl tp p) = true) (f : Nat) (up : Int) : MRes g tl tp N (upT up) (M_readMarked 121 up p g) (gP tl tp (f + 1) false b rl p N fo) := by
  obtain ⟨S, E, T, ok, e12, e29, bd, hrl, fm, p0, p1⟩ := M
  have li := lb_in hl
  have v26 : g 121 26 = tpC tl tp p - 65 := by rw [T.2.2.1]; unfold vlG; rw [if_pos hl]
  obtain ⟨g1, a1, F1, T1, q0, q1⟩ := adv E T p0 (by omega)
  have G1 : GFr N g g1 := GFr.tk F1
  have E1 := G1.he E
  have S1 := G1.ms S
  have ok1 : g1 121 27 = 0 := by rw [F1 121 27 (Or.inr (by decide))]; exact ok
  have f12 : g1 121 12 = N := by rw [F1 121 12 (Or.inr (by decide))]; exact e12
  have f29 : g1 121 29 = b := by rw [F1 121 29 (Or.inr (by decide))]; exact e29
  have f30 : g1 121 30 = g 121 30 := F1 121 30 (Or.inr (by decide))
  have fl : g1 124 (40 + b) = rl := by rw [F1 124 _ (Or.inl (by decide))]; exact hrl bN
  have s6 : g1 121 6 = 124 := ms_at S1 (by decide)
  generalize hq : blA tl tp (p + 1) = q at T1 q0 q1
  have gPe : gP tl tp (f + 1) false b rl p N fo = (if tpC tl tp q = 42 ∧ (fo = true ∨ rl ≠ tpC tl tp p - 65) then .inl (2, p)
      else if rmN b N = false then .inl (3, p)
      else if tpC tl tp q = 42 then .inr (.neg (.var (tpC tl tp p - 65).toNat), blA tl tp (q + 1), true)
      else if tpC tl tp q = 94 then .inr (.sub .zero (.var (tpC tl tp p - 65).toNat), blA tl tp (q + 1), fo)
      else .inl (1, q)) := by
    unfold gP
    rw [if_neg (by omega), if_pos hl, hq]
  rw [gPe]
  unfold M_readMarked
  rw [if_pos kK_121, a1, ob_some, tk_sign T1 ok1 (Or.inr (Or.inr (Or.inr (Or.inr (Or.inl rfl))))), ob_some, v26]
  -- what comes behind a fault
  have bad : ∀ (e : Hp) (k l4 l5 : Int), e 121 27 ≠ 0 → M_readMarked_j101 121 l4 l5 e = some (l5, e) := by
    intro e k l4 l5 he
    unfold M_readMarked_j101
    rw [if_pos kK_121, good_n he, ob_some, if_pos rfl]
  have toI : ((tpC tl tp p - 65).toNat : Int) = tpC tl tp p - 65 := by omega
  by_cases h42 : tpC tl tp q = 42
  · rw [if_pos h42, if_neg (by decide)]
    by_cases hb : fo = true ∨ rl ≠ tpC tl tp p - 65
    · have hbb : tpC tl tp q = 42 ∧ (fo = true ∨ rl ≠ tpC tl tp p - 65) := ⟨h42, hb⟩
      rw [if_pos hbb]
      have j46 : M_readMarked_j46 121 up p (tpC tl tp p - 65) 1 g1 = some (40, errG g1 2 p) := by
        have e27 : (errG g1 2 p) 121 27 ≠ 0 := by rw [errG_27]; decide
        unfold M_readMarked_j46 M_readMarked_j52 M_readMarked_j63
        rw [if_pos kK_121, errs_y ok1, ob_some, if_pos kK_121, opens_b e27, ob_some, if_pos kK_121]
        simp only
        rw [good_n e27, ob_some, if_pos rfl, bad _ 0 _ _ e27]
      refine MRes_l ⟨40, errG g1 2 p, ?_, by decide, errG_27 .., errG_28 .., G1.tr GFr.err⟩
      by_cases h30 : g1 121 30 = -1
      · rw [if_pos h30, s6, f29, show w32 (40 + b) = 40 + b by unfold w32; omega, if_pos ⟨by decide, by omega, by rw [show kL 124 = 80 by decide]; omega⟩, fl]
        have nl : ¬ tpC tl tp p - 65 = rl := by
          rcases hb with z | z
          · exact absurd (f30 ▸ h30) (fm.2 z)
          · exact fun w => z w.symm
        rw [if_neg nl, j46]
      · rw [if_neg h30, j46]
    · have hbb : ¬ (tpC tl tp q = 42 ∧ (fo = true ∨ rl ≠ tpC tl tp p - 65)) := fun z => hb z.2
      rw [if_neg hbb]
      have hfo : fo = false := by
        cases hf : fo with
        | true => exact absurd (Or.inl hf) hb
        | false => rfl
      have hrl' : tpC tl tp p - 65 = rl := by
        by_cases z : rl = tpC tl tp p - 65
        · exact z.symm
        · exact absurd (Or.inr z) hb
      have h30 : g1 121 30 = -1 := by rw [f30]; exact fm.1 hfo
      rw [if_pos h30, s6, f29, show w32 (40 + b) = 40 + b by unfold w32; omega, if_pos ⟨by decide, by omega, by rw [show kL 124 = 80 by decide]; omega⟩, fl, if_pos hrl']
      unfold M_readMarked_j52 M_readMarked_j63
      rw [if_neg (show ¬ (1 : Int) = 0 by decide), if_pos kK_121]
      by_cases hr : rmN b N = false
      · have e27 : (errG g1 3 p) 121 27 ≠ 0 := by rw [errG_27]; decide
        rw [if_pos hr, opens_n f12 f29 bd ok1 hr, ob_some, if_pos kK_121]
        simp only
        rw [good_n e27, ob_some, if_pos rfl, bad _ 0 _ _ e27]
        exact MRes_l ⟨40, errG g1 3 p, rfl, by decide, errG_27 .., errG_28 .., G1.tr GFr.err⟩
      · have hr' : rmN b N = true := by simpa using hr
        rw [if_neg hr, if_pos h42, opens_y S1 f12 f29 bd ok1 hr', ob_some, if_pos kK_121]
        simp only
        have ok2 : (nwM g1 N 3 (tpC tl tp p - 65) up) 121 27 = 0 := by rw [nw_121 (by decide)]; exact ok1
        rw [good_y ok2, ob_some, if_neg (by decide), if_neg (by decide)]
        unfold M_readMarked_j101 M_readMarked_j122
        rw [if_pos kK_121, good_y ok2, ob_some, if_neg (by decide), if_neg (by decide)]
        simp only
        have e30 : ∀ c s, (c ≠ 121 ∨ s ≠ 30) → (hput (nwM g1 N 3 (tpC tl tp p - 65) up) 121 30 (40 + N)) c s = (nwM g1 N 3 (tpC tl tp p - 65) up) c s := fun c s z => hput_no z
        have G2 : GFr N g1 (hput (nwM g1 N 3 (tpC tl tp p - 65) up) 121 30 (40 + N)) := fun c s z1 z2 => by rw [e30 c s (by omega), GFr.nw c s z1 z2]
        have T2 : TokG (hput (nwM g1 N 3 (tpC tl tp p - 65) up) 121 30 (40 + N)) tl tp q := by
          unfold TokG
          rw [e30 121 24 (by decide), e30 121 25 (by decide), e30 121 26 (by decide), e30 121 23 (by decide), nw_121 (by decide), nw_121 (by decide), nw_121 (by decide), nw_121 (by decide)]
          exact T1
        obtain ⟨g3, a3, F3, T3, r0, r1⟩ := adv (G2.he E1) T2 (by omega) (by omega)
        rw [if_pos kK_121, a3, ob_some]
        refine MRes_r ⟨g3, rfl, leaf_end G1 ok1 (F1 121 28 (Or.inr (by decide))) F3 e30 T3 ⟨fun z => absurd z (by decide), fun _ => ?_⟩ r1 rfl (fun R hR => ?_) (fun _ => by omega)⟩
        · rw [hput_eq]; omega
        · show Rw false R _ N 3 (((tpC tl tp p - 65).toNat : Nat) : Int) 0 (-1) (-1) (upT up)
          rw [toI]; exact hR
  · rw [if_neg h42, if_pos rfl, if_neg (fun z => h42 z.1)]
    unfold M_readMarked_j52 M_readMarked_j63
    rw [if_pos (show (0 : Int) = 0 from rfl), if_pos kK_121]
    by_cases hr : rmN b N = false
    · have e27 : (errG g1 3 p) 121 27 ≠ 0 := by rw [errG_27]; decide
      rw [if_pos hr, opens_n f12 f29 bd ok1 hr, ob_some, if_pos kK_121]
      simp only
      rw [good_n e27, ob_some, if_pos rfl, bad _ 0 _ _ e27]
      exact MRes_l ⟨40, errG g1 3 p, rfl, by decide, errG_27 .., errG_28 .., G1.tr GFr.err⟩
    · have hr' : rmN b N = true := by simpa using hr
      rw [if_neg hr, if_neg h42, opens_y S1 f12 f29 bd ok1 hr', ob_some, if_pos kK_121]
      simp only
      have ok2 : (nwM g1 N 4 (tpC tl tp p - 65) up) 121 27 = 0 := by rw [nw_121 (by decide)]; exact ok1
      have T2 : TokG (nwM g1 N 4 (tpC tl tp p - 65) up) tl tp q := by
        unfold TokG
        rw [nw_121 (by decide), nw_121 (by decide), nw_121 (by decide), nw_121 (by decide)]
        exact T1
      rw [good_y ok2, ob_some, if_neg (by decide), if_pos trivial, tk_sign T2 ok2 (Or.inr (Or.inr (Or.inr (Or.inr (Or.inr (Or.inl rfl)))))), ob_some]
      by_cases h94 : tpC tl tp q = 94
      · rw [if_pos h94, if_neg (by decide), if_pos h94]
        obtain ⟨g3, a3, F3, T3, r0, r1⟩ := adv ((GFr.nw).he E1) T2 (by omega) (by omega)
        unfold M_readMarked_j101 M_readMarked_j122
        rw [if_pos kK_121, good_y ok2, ob_some, if_neg (by decide), if_pos rfl, if_pos kK_121, a3, ob_some]
        refine MRes_r ⟨g3, rfl, leaf_end G1 ok1 (F1 121 28 (Or.inr (by decide))) F3 (fun _ _ _ => rfl) T3 ?_ r1 rfl (fun R hR => ?_) (fun _ => by omega)⟩
        · unfold FoM at fm ⊢
          rw [nw_121 (by decide), f30]
          exact fm
        · show Rw false R _ N 4 (((tpC tl tp p - 65).toNat : Nat) : Int) 0 (-1) (-1) (upT up)
          rw [toI]; exact hR
      · rw [if_neg h94, if_pos rfl, if_neg h94, T2.1, errs_y ok2, ob_some]
        have e27 : (errG (nwM g1 N 4 (tpC tl tp p - 65) up) 1 q) 121 27 ≠ 0 := by rw [errG_27]; decide
        rw [bad _ 0 _ _ e27]
        exact MRes_l ⟨_, _, rfl, by decide, errG_27 .., errG_28 .., (G1.tr GFr.nw).tr GFr.err⟩
end
