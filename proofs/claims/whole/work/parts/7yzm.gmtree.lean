/-! grammar: the reference's recursion -/
theorem rb_0 (d : Nat) (up : Int) (g : Hp) (h : 3 ≤ d) : M_readBranch_G (d + 1) 0 [121, up] g = M_readBranch_b (M_readBranch_G d) d 121 up g := if_pos h
theorem rb_1 (d : Nat) (up : Int) (g : Hp) (h : 3 ≤ d) : M_readBranch_G (d + 1) 1 [121, up] g = M_readChild_b (M_readBranch_G d) d 121 up g := if_pos h
def wrM (e : Hp) (N a x : Int) : Hp := hput (hput e 126 (40 + N) a) 127 (40 + N) x
section
variable {g g' g'' : Hp} {tl b rl p N u : Int} {tp : Int → Int} {fo : Bool}
theorem rc_bad {d : Nat} {up : Int} (h : 4 ≤ d) (bad : g 121 27 ≠ 0) : M_readBranch_G d 1 [121, up] g = some (40, g) := by
  obtain ⟨k, rfl⟩ : ∃ k, d = k + 1 := ⟨d - 1, by omega⟩
  rw [rb_1 k up g (by omega)]
  unfold M_readChild_b
  rw [if_pos kK_121, good_n bad, ob_some, if_pos rfl]
theorem rj131_b {R : Nat → List Int → Hp → Option (Int × Hp)} {d : Nat} {l3 l4 s0 : Int} (bad : g 121 27 ≠ 0) : M_readBranch_j131 R d 121 l3 l4 s0 g = some (l3, g) := by
  unfold M_readBranch_j131
  rw [if_pos kK_121, good_n bad, ob_some, if_pos rfl]
theorem rj131_y {R : Nat → List Int → Hp → Option (Int × Hp)} {d : Nat} {l4 s0 : Int} (S : MShp g) (ok : g 121 27 = 0) (N0 : 0 ≤ N) (N1 : N < 40) : M_readBranch_j131 R d 121 (40 + N) l4 s0 g = some (40 + N, wrM g N l4 s0) := by
  have s8 : g 121 8 = 126 := ms_at S (by decide)
  have s9 : (hput g 126 (40 + N) l4) 121 9 = 127 := by rw [hput_ne1 (by decide)]; exact ms_at S (by decide)
  unfold M_readBranch_j131
  rw [if_pos kK_121, good_y ok, ob_some, if_neg (by decide), s8, if_pos ⟨by decide, by omega, by rw [show kL 126 = 80 by decide]; omega⟩]
  simp only
  rw [s9, if_pos ⟨by decide, by omega, by rw [show kL 127 = 80 by decide]; omega⟩]
  rfl
theorem rj57_b {R : Nat → List Int → Hp → Option (Int × Hp)} {d : Nat} {l3 : Int} (bad : g 121 27 ≠ 0) (hR : R 1 [121, l3] g = some (40, g)) : M_readBranch_j57 R d 121 l3 g = some (l3, g) := by
  unfold M_readBranch_j57 M_readBranch_j99 M_readBranch_j130
  rw [if_pos kK_121, tk_bad bad, ob_some, if_pos rfl, tk_bad bad, ob_some, if_pos rfl, if_pos kK_121, hR, ob_some]
  simp only
  rw [good_n bad, ob_some, if_pos rfl, rj131_b bad]
theorem wr_no {a x c s : Int} (h : (c ≠ 126 ∧ c ≠ 127) ∨ s ≠ 40 + N) : (wrM g N a x) c s = g c s := by
  unfold wrM
  rw [hput_no (by omega), hput_no (by omega)]
theorem wr_fr {a x : Int} : GFr N g (wrM g N a x) := fun c s _ h2 => wr_no (by omega)
theorem wr_RM {a x i n : Int} (hn : n ≠ N) : RM (wrM g N a x) i n = RM g i n := by
  unfold RM
  rw [wr_no (Or.inr (by omega))]
theorem upT_40 {n : Int} (h : 0 ≤ n) : upT (40 + n) = n := by
  unfold upT
  rw [if_neg (by omega)]
  omega
/-- a branch's mark -/
theorem mark_ok {R : Nat → List Int → Hp → Option (Int × Hp)} {d : Nat} {q : Int} (S : MShp g) (E : HeE g tl tp) (T : TokG g tl tp q) (ok : g 121 27 = 0) (N0 : 0 ≤ N) (N1 : N < 40) (q0 : 0 ≤ q) (q1 : q ≤ tl) (m0 : g 125 (40 + N) = 0) : ∃ g3, M_readBranch_j57 R d 121 (40 + N) g = M_readBranch_j99 R d 121 (40 + N) g3 ∧ (∀ c s, (c ≠ 121 ∨ (s ≠ 23 ∧ s ≠ 24 ∧ s ≠ 25 ∧ s ≠ 26)) → (c ≠ 125 ∨ s ≠ 40 + N) → g3 c s = g c s) ∧ g3 125 (40 + N) = mkA tl tp q ∧ TokG g3 tl tp (mkP tl tp q) ∧ q ≤ mkP tl tp q ∧ mkP tl tp q ≤ tl := by
  have s7 : g 121 7 = 125 := ms_at S (by decide)
  have go : ∀ v, v = mkA tl tp q → mkA tl tp q ≠ 0 → tpC tl tp q ≠ -1 → ∃ g3, M_readBranch_j94 R d 121 (40 + N) v (40 + N) (g 121 7) g = M_readBranch_j99 R d 121 (40 + N) g3 ∧ (∀ c s, (c ≠ 121 ∨ (s ≠ 23 ∧ s ≠ 24 ∧ s ≠ 25 ∧ s ≠ 26)) → (c ≠ 125 ∨ s ≠ 40 + N) → g3 c s = g c s) ∧ g3 125 (40 + N) = mkA tl tp q ∧ TokG g3 tl tp (mkP tl tp q) ∧ q ≤ mkP tl tp q ∧ mkP tl tp q ≤ tl := by
    intro v hv hz hq
    have F : GFr N g (hput g 125 (40 + N) v) := fun c s _ h2 => hput_no (by omega)
    have T' : TokG (hput g 125 (40 + N) v) tl tp q := by
      unfold TokG
      rw [hput_ne1 (by decide), hput_ne1 (by decide), hput_ne1 (by decide), hput_ne1 (by decide)]
      exact T
    obtain ⟨g3, a3, F3, T3, r0, r1⟩ := adv (F.he E) T' q0 hq
    refine ⟨g3, ?_, fun c s h1 h2 => by rw [F3 c s h1, hput_no h2], by rw [F3 125 _ (Or.inl (by decide)), hput_eq]; exact hv, ?_⟩
    · unfold M_readBranch_j94
      rw [s7, if_pos ⟨by decide, by omega, by rw [show kL 125 = 80 by decide]; omega⟩]
      simp only
      rw [if_pos kK_121, a3, ob_some]
    · unfold mkP
      rw [if_neg hz]
      exact ⟨T3, by omega, r1⟩
  unfold M_readBranch_j57
  rw [if_pos kK_121, tk_sign T ok (Or.inr (Or.inr (Or.inr (Or.inr (Or.inr (Or.inr (Or.inl rfl))))))), ob_some]
  by_cases h33 : tpC tl tp q = 33
  · have hm : mkA tl tp q = 1 := by unfold mkA; rw [if_pos h33]
    rw [if_pos h33, if_neg (by decide)]
    unfold M_readBranch_j75
    rw [if_pos kK_121, T.2.2.1, h33, show vlG 33 = 33 by decide, if_pos rfl]
    exact go 1 hm.symm (by omega) (by omega)
  · rw [if_neg h33, if_pos rfl, tk_sign T ok (Or.inr (Or.inr (Or.inr (Or.inr (Or.inr (Or.inr (Or.inr rfl))))))), ob_some]
    by_cases h43 : tpC tl tp q = 43
    · have hm : mkA tl tp q = 2 := by unfold mkA; rw [if_neg h33, if_pos h43]
      rw [if_pos h43, if_neg (by decide)]
      unfold M_readBranch_j75
      rw [if_pos kK_121, T.2.2.1, h43, show vlG 43 = 43 by decide, if_neg (by decide)]
      exact go 2 hm.symm (by omega) (by omega)
    · have hm : mkA tl tp q = 0 := by unfold mkA; rw [if_neg h33, if_neg h43]
      have hp : mkP tl tp q = q := by unfold mkP; rw [if_pos hm]
      rw [if_neg h43, if_pos rfl, hp, hm]
      exact ⟨g, rfl, fun _ _ _ _ => rfl, m0, T, Int.le_refl _, q1⟩
set_option maxHeartbeats 1000000 in
theorem read_ok : ∀ (f : Nat) (br : Bool) (b rl p N : Int) (fo : Bool) (d : Nat) (up : Int) (g : Hp), MPre g tl tp b rl p N fo → (br = false → b < N) → 0 < f → tl - p < f → f + 4 ≤ d → MRes g tl tp N (upT up) (M_readBranch_G d (cond br 0 1) [121, up] g) (gP tl tp f br b rl p N fo)
  | 0, _, _, _, _, _, _, _, _, _, _, _, h, _, _ => absurd h (by decide)
  | f + 1, true, b, rl, p, N, fo, d, up, g, M, _, _, hf, hd => by
    obtain ⟨d, rfl⟩ : ∃ k, d = k + 1 := ⟨d - 1, by omega⟩
    show MRes g tl tp N (upT up) (M_readBranch_G (d + 1) 0 [121, up] g) _
    rw [rb_0 d up g (by omega)]
    obtain ⟨S, E, T, ok, e12, e29, bd, hrl, fm, p0, p1⟩ := M
    unfold gP M_readBranch_b
    rw [if_pos kK_121, T.2.1, T.1]
    by_cases hl : isLb (tpC tl tp p) = false
    · have hn : ¬ knG (tpC tl tp p) = 2 := fun z => by rw [kn_lab.mp z] at hl; exact absurd hl (by decide)
      have e27 : (errG g 1 p) 121 27 ≠ 0 := by rw [errG_27]; decide
      rw [if_pos hl, if_neg hn, errs_y ok, ob_some]
      unfold M_readBranch_j22 M_readBranch_j45
      rw [if_pos kK_121, good_n e27, ob_some, if_pos rfl, if_pos kK_121, ob_some, if_pos rfl, rj57_b e27 (rc_bad (by omega) e27)]
      exact MRes_l ⟨_, _, rfl, by decide, errG_27 .., errG_28 .., GFr.err⟩
    · have hl' : isLb (tpC tl tp p) = true := by simpa using hl
      have li := lb_in hl'
      have v26 : g 121 26 = tpC tl tp p - 65 := by rw [T.2.2.1]; unfold vlG; rw [if_pos hl']
      rw [if_neg hl, if_pos (kn_lab.mpr hl')]
      unfold M_readBranch_j22
      rw [if_pos kK_121, good_y ok, ob_some, if_neg (by decide), v26]
      by_cases hr : rmN b N = false
      · have e27 : (errG g 3 p) 121 27 ≠ 0 := by rw [errG_27]; decide
        rw [if_pos hr, opens_n e12 e29 bd ok hr, ob_some]
        unfold M_readBranch_j45
        simp only
        rw [if_pos kK_121, good_n e27, ob_some, if_pos rfl, rj57_b e27 (rc_bad (by omega) e27)]
        exact MRes_l ⟨_, _, rfl, by decide, errG_27 .., errG_28 .., GFr.err⟩
      · have hr' : rmN b N = true := by simpa using hr
        have rb : N < 40 ∧ N - b < 12 := by unfold rmN at hr'; simpa using hr'
        rw [if_neg hr, opens_y S e12 e29 bd ok hr', ob_some]
        obtain ⟨n0, n1, n2, n3, n4, n5, n6⟩ := nw_at (g := g) (N := N) (k := 0) (l := tpC tl tp p - 65) (up := up)
        have G1 : GFr N g (nwM g N 0 (tpC tl tp p - 65) up) := GFr.nw
        have ok1 : (nwM g N 0 (tpC tl tp p - 65) up) 121 27 = 0 := by rw [nw_121 (by decide)]; exact ok
        have T1 : TokG (nwM g N 0 (tpC tl tp p - 65) up) tl tp p := by
          unfold TokG
          rw [nw_121 (by decide), nw_121 (by decide), nw_121 (by decide), nw_121 (by decide)]
          exact T
        have x29 : (nwM g N 0 (tpC tl tp p - 65) up) 121 29 = b := by rw [nw_121 (by decide)]; exact e29
        have x30 : (nwM g N 0 (tpC tl tp p - 65) up) 121 30 = g 121 30 := nw_121 (by decide)
        have x28 : (nwM g N 0 (tpC tl tp p - 65) up) 121 28 = g 121 28 := nw_121 (by decide)
        have xrl : (nwM g N 0 (tpC tl tp p - 65) up) 124 (40 + b) = if N = b then tpC tl tp p - 65 else rl := by
          by_cases z : N = b
          · rw [if_pos z, ← z]; exact n1
          · rw [if_neg z, GFr.nw 124 (40 + b) (Or.inl (by decide)) (by omega)]; exact hrl (by omega)
        unfold M_readBranch_j45
        simp only
        rw [if_pos kK_121, good_y ok1, ob_some, if_neg (by decide)]
        generalize nwM g N 0 (tpC tl tp p - 65) up = g1 at n0 n1 n2 n3 n4 n5 n6 G1 ok1 T1 x29 x30 x28 xrl
        have S1 := G1.ms S
        have E1 := G1.he E
        obtain ⟨g2, a2, F2, T2, q0, q1⟩ := adv E1 T1 p0 (by omega)
        rw [a2, ob_some]
        generalize hq : blA tl tp (p + 1) = q at T2 q0 q1 ⊢
        have S2 := (GFr.tk (N := N) F2).ms S1
        have E2 := (GFr.tk (N := N) F2).he E1
        obtain ⟨g3, j3, F3, m3, T3, r0, r1⟩ := mark_ok (R := M_readBranch_G d) (d := d) S2 E2 T2 (by rw [F2 121 27 (Or.inr (by decide))]; exact ok1) (by omega) rb.1 (by omega) q1 (by rw [F2 125 _ (Or.inl (by decide))]; exact n2)
        rw [j3]
        have G3 : GFr N g1 g3 := fun c s h1 h2 => by rw [F3 c s (by omega) (by omega), F2 c s (by omega)]
        have c3 : ∀ c s, (c ≠ 121 ∨ (s ≠ 23 ∧ s ≠ 24 ∧ s ≠ 25 ∧ s ≠ 26)) → (c ≠ 125 ∨ s ≠ 40 + N) → g3 c s = g1 c s := fun c s h1 h2 => by rw [F3 c s h1 h2, F2 c s h1]
        have S3 := G3.ms S1
        have E3 := G3.he E1
        have ok3 : g3 121 27 = 0 := by rw [c3 121 27 (Or.inr (by decide)) (Or.inl (by decide))]; exact ok1
        have w28 : g3 121 28 = g 121 28 := by rw [c3 121 28 (Or.inr (by decide)) (Or.inl (by decide))]; exact x28
        have m2 : 0 ≤ mkA tl tp q ∧ mkA tl tp q ≤ 2 := by unfold mkA; split; decide; split <;> decide
        generalize hrl2 : (if N = b then tpC tl tp p - 65 else rl) = rl2 at xrl ⊢
        have P3 : MPre g3 tl tp b rl2 (mkP tl tp q) (N + 1) fo := by
          refine ⟨S3, E3, T3, ok3, ?_, ?_, by omega, fun _ => ?_, ?_, by omega, r1⟩
          · rw [c3 121 12 (Or.inr (by decide)) (Or.inl (by decide))]; exact n6
          · rw [c3 121 29 (Or.inr (by decide)) (Or.inl (by decide))]; exact x29
          · rw [c3 124 _ (Or.inl (by decide)) (Or.inl (by decide))]; exact xrl
          · unfold FoM at fm ⊢
            rw [c3 121 30 (Or.inr (by decide)) (Or.inl (by decide)), x30]
            exact fm
        have rows : ∀ e : Hp, GFr (N + 1) g3 e → ∀ (x1 x2 : Int) (dd : Dv) (a1 a2 : Int), upT x1 = a1 → upT x2 = a2 → Rw false (RM (wrM e N x1 x2)) dd N 0 ((tpC tl tp p - 65 + 26 * mkA tl tp q) % 26) ((tpC tl tp p - 65 + 26 * mkA tl tp q) / 26) a1 a2 (upT up) := by
          intro e Fe x1 x2 dd a1 a2 h1 h2
          have er : ∀ c, 123 ≤ c → c ≤ 128 → c ≠ 126 → c ≠ 127 → (wrM e N x1 x2) c (40 + N) = g3 c (40 + N) := fun c k0 k1 k2 k3 => by
            rw [wr_no (Or.inl ⟨k2, k3⟩), Fe c _ (Or.inl (by omega)) (by omega)]
          have e1 : (wrM e N x1 x2) 126 (40 + N) = x1 := by unfold wrM; rw [hput_ne1 (by decide), hput_eq]
          have e2 : (wrM e N x1 x2) 127 (40 + N) = x2 := by unfold wrM; rw [hput_eq]
          refine RM_row ?_ ?_ ?_ (by rw [e1]; exact h1) (by rw [e2]; exact h2) ?_ (fun _ => by omega) (by omega)
          · rw [er 123 (by decide) (by decide) (by decide) (by decide), c3 123 _ (Or.inl (by decide)) (Or.inl (by decide))]; exact n0
          · rw [er 124 (by decide) (by decide) (by decide) (by decide), c3 124 _ (Or.inl (by decide)) (Or.inl (by decide)), n1]; omega
          · rw [er 125 (by decide) (by decide) (by decide) (by decide), m3]; omega
          · rw [er 128 (by decide) (by decide) (by decide) (by decide), c3 128 _ (Or.inl (by decide)) (Or.inl (by decide)), n5]
        have I1 := read_ok f false b rl2 (mkP tl tp q) (N + 1) fo d (40 + N) g3 P3 (fun _ => by omega) (by omega) (by omega) (by omega)
        rw [upT_40 (show 0 ≤ N by omega)] at I1
        have I1 : MRes g3 tl tp (N + 1) N (M_readBranch_G d 1 [121, 40 + N] g3) (gP tl tp f false b rl2 (mkP tl tp q) (N + 1) fo) := I1
        unfold M_readBranch_j99
        rw [if_pos kK_121]
        cases hx : gP tl tp f false b rl2 (mkP tl tp q) (N + 1) fo with
        | inl z =>
          rw [hx] at I1
          obtain ⟨v, g4, o4, z0, z1, z2, F4⟩ := MRes_l' I1
          have bad : g4 121 27 ≠ 0 := by rw [z1]; exact z0
          rw [o4, ob_some]
          unfold M_readBranch_j130
          simp only
          rw [good_n bad, ob_some, if_pos rfl, rj131_b bad]
          exact MRes_l ⟨_, _, rfl, z0, z1, z2, (G1.tr G3).tr (F4.up (by omega))⟩
        | inr z =>
          obtain ⟨x, p3, fo1⟩ := z
          rw [hx] at I1
          obtain ⟨g4, o4, ok4, e4, T4, fm4, H4, F4, t4, q28⟩ := MRes_r' I1
          have gi := gP_in (tl := tl) (tp := tp) f false b rl2 _ _ fo x p3 fo1 (by omega) hx
          have S4 := F4.ms S3
          have E4 := F4.he E3
          have GG4 : GFr N g g4 := (G1.tr G3).tr (F4.up (by omega))
          rw [o4, ob_some]
          simp only
          rw [good_y ok4, ob_some, if_neg (by decide), tk_sign T4 ok4 (Or.inr (Or.inl rfl)), ob_some]
          by_cases h41 : tpC tl tp p3 = 41
          · rw [if_pos h41, if_neg (by decide), if_pos h41]
            unfold M_readBranch_j130
            rw [rj131_y S4 ok4 (by omega) rb.1]
            refine MRes_r ⟨_, rfl, ?_, ?_, ?_, ?_, ⟨rows g4 F4 _ _ _ _ _ (by rw [upT_40 (by omega)]) rfl, ?_⟩, GG4.tr wr_fr, t4, by rw [wr_no (Or.inl (by decide)), q28]; exact w28⟩
            · rw [wr_no (Or.inl (by decide))]; exact ok4
            · rw [wr_no (Or.inl (by decide)), e4]
              show N + 1 + ((szT x : Nat) : Int) = N + ((szT x + 1 : Nat) : Int)
              omega
            · unfold TokG
              rw [wr_no (Or.inl (by decide)), wr_no (Or.inl (by decide)), wr_no (Or.inl (by decide)), wr_no (Or.inl (by decide))]
              exact T4
            · unfold FoM
              rw [wr_no (Or.inl (by decide))]
              exact fm4
            · exact Hd_eq x _ _ H4 (fun i n _ _ n0 _ => wr_RM (by omega))
          · rw [if_neg h41, if_pos rfl, if_neg h41]
            have P4 : MPre g4 tl tp b rl2 p3 (N + 1 + szT x) fo1 := by
              refine ⟨S4, E4, T4, ok4, e4, ?_, by omega, fun _ => ?_, fm4, by omega, t4⟩
              · rw [F4 121 29 (Or.inr (by decide)) (Or.inl (by decide))]; exact P3.2.2.2.2.2.1
              · rw [F4 124 _ (Or.inl (by decide)) (by omega)]; exact P3.2.2.2.2.2.2.2.1 (by omega)
            have I2 := read_ok f false b rl2 p3 (N + 1 + szT x) fo1 d (40 + N) g4 P4 (fun _ => by omega) (by omega) (by omega) (by omega)
            rw [upT_40 (show 0 ≤ N by omega)] at I2
            have I2 : MRes g4 tl tp (N + 1 + szT x) N (M_readBranch_G d 1 [121, 40 + N] g4) (gP tl tp f false b rl2 p3 (N + 1 + szT x) fo1) := I2
            cases hy : gP tl tp f false b rl2 p3 (N + 1 + szT x) fo1 with
            | inl z =>
              rw [hy] at I2
              obtain ⟨v, g5, o5, z0, z1, z2, F5⟩ := MRes_l' I2
              have bad : g5 121 27 ≠ 0 := by rw [z1]; exact z0
              rw [o5, ob_some]
              simp only
              rw [rj131_b bad]
              exact MRes_l ⟨_, _, rfl, z0, z1, z2, GG4.tr (F5.up (by omega))⟩
            | inr z =>
              obtain ⟨y, p4, fo2⟩ := z
              rw [hy] at I2
              obtain ⟨g5, o5, ok5, e5, T5, fm5, H5, F5, t5, r28⟩ := MRes_r' I2
              have S5 := F5.ms S4
              have hy4 : Hd false (RM g5) x (N + 1) N := Hd_eq x _ _ H4 (fun i n i0 _ _ n1 => RM_lt F5 i0 (by omega))
              rw [o5, ob_some]
              simp only
              rw [rj131_y S5 ok5 (by omega) rb.1]
              refine MRes_r ⟨_, rfl, ?_, ?_, ?_, ?_, ⟨rows g5 (F4.tr (F5.up (by omega))) _ _ _ _ _ (by rw [upT_40 (by omega)]) (by rw [upT_40 (by omega)]), ?_, ?_⟩, (GG4.tr (F5.up (by omega))).tr wr_fr, t5, by rw [wr_no (Or.inl (by decide)), r28, q28]; exact w28⟩
              · rw [wr_no (Or.inl (by decide))]; exact ok5
              · rw [wr_no (Or.inl (by decide)), e5]
                show N + 1 + ((szT x : Nat) : Int) + ((szT y : Nat) : Int) = N + ((szT x + (szT y + 1) : Nat) : Int)
                omega
              · unfold TokG
                rw [wr_no (Or.inl (by decide)), wr_no (Or.inl (by decide)), wr_no (Or.inl (by decide)), wr_no (Or.inl (by decide))]
                exact T5
              · unfold FoM
                rw [wr_no (Or.inl (by decide))]
                exact fm5
              · exact Hd_eq x _ _ hy4 (fun i n _ _ n0 _ => wr_RM (by omega))
              · exact Hd_eq y _ _ H5 (fun i n _ _ n0 _ => wr_RM (by omega))
  | f + 1, false, b, rl, p, N, fo, d, up, g, M, bN, _, hf, hd => by
    obtain ⟨d, rfl⟩ : ∃ k, d = k + 1 := ⟨d - 1, by omega⟩
    show MRes g tl tp N (upT up) (M_readBranch_G (d + 1) 1 [121, up] g) _
    rw [rb_1 d up g (by omega)]
    have M0 := M
    obtain ⟨S, E, T, ok, e12, e29, bd, hrl, fm, p0, p1⟩ := M
    have bN := bN rfl
    unfold M_readChild_b
    rw [if_pos kK_121, good_y ok, ob_some, if_neg (by decide), T.2.1, T.1, tk_sign T ok (Or.inr (Or.inr (Or.inr (Or.inl rfl)))), ob_some, tk_sign T ok (Or.inl rfl), ob_some]
    by_cases h40 : tpC tl tp p = 40
    · have k3 : ¬ knG (tpC tl tp p) = 3 := by rw [h40]; decide
      rw [if_neg k3, if_neg (show ¬ tpC tl tp p = 46 by omega), if_pos rfl, if_pos h40, if_neg (by decide)]
      unfold gP
      rw [if_pos h40]
      obtain ⟨g1, a1, F1, T1, q0, q1⟩ := adv E T p0 (by omega)
      have G1 : GFr N g g1 := GFr.tk F1
      have P1 : MPre g1 tl tp b rl (blA tl tp (p + 1)) N fo := by
        refine ⟨G1.ms S, G1.he E, T1, ?_, ?_, ?_, bd, fun z => ?_, ?_, by omega, q1⟩
        · rw [F1 121 27 (Or.inr (by decide))]; exact ok
        · rw [F1 121 12 (Or.inr (by decide))]; exact e12
        · rw [F1 121 29 (Or.inr (by decide))]; exact e29
        · rw [F1 124 _ (Or.inl (by decide))]; exact hrl z
        · unfold FoM at fm ⊢
          rw [F1 121 30 (Or.inr (by decide))]
          exact fm
      have I := read_ok f true b rl (blA tl tp (p + 1)) N fo d up g1 P1 (fun z => absurd z (by decide)) (by omega) (by omega) (by omega)
      have I : MRes g1 tl tp N (upT up) (M_readBranch_G d 0 [121, up] g1) (gP tl tp f true b rl (blA tl tp (p + 1)) N fo) := I
      rw [a1, ob_some]
      cases hx : gP tl tp f true b rl (blA tl tp (p + 1)) N fo with
      | inl z =>
        rw [hx] at I
        obtain ⟨v, g4, o4, z0, z1, z2, F4⟩ := MRes_l' I
        have bad : g4 121 27 ≠ 0 := by rw [z1]; exact z0
        rw [o4, ob_some]
        simp only
        rw [takes_b bad, ob_some]
        exact MRes_l ⟨_, _, rfl, z0, z1, z2, G1.tr F4⟩
      | inr z =>
        obtain ⟨x, p3, fo1⟩ := z
        rw [hx] at I
        obtain ⟨g4, o4, ok4, e4, T4, fm4, H4, F4, t4, q28⟩ := MRes_r' I
        have gi := gP_in (tl := tl) (tp := tp) f true b rl _ _ fo x p3 fo1 (by omega) hx
        rw [o4, ob_some]
        simp only
        by_cases h41 : tpC tl tp p3 = 41
        · rw [if_pos h41]
          obtain ⟨g5, a5, F5, T5, r0, r1⟩ := takes_y ((G1.tr F4).he E) T4 ok4 (by omega) (Or.inr (Or.inl rfl)) h41
          rw [a5, ob_some]
          refine MRes_r ⟨g5, rfl, ?_, ?_, T5, ?_, ?_, (G1.tr F4).tr (GFr.tk F5), r1, by rw [F5 121 28 (Or.inr (by decide)), q28, F1 121 28 (Or.inr (by decide))]⟩
          · rw [F5 121 27 (Or.inr (by decide))]; exact ok4
          · rw [F5 121 12 (Or.inr (by decide))]; exact e4
          · unfold FoM at fm4 ⊢
            rw [F5 121 30 (Or.inr (by decide))]
            exact fm4
          · exact Hd_eq x _ _ H4 (fun i n i0 _ _ _ => RM_tk F5 i0)
        · rw [if_neg h41, takes_n T4 ok4 (Or.inr (Or.inl rfl)) h41, ob_some]
          exact MRes_l ⟨_, _, rfl, by decide, errG_27 .., errG_28 .., (G1.tr F4).tr GFr.err⟩
    · by_cases hl : isLb (tpC tl tp p) = true
      · have li := lb_in hl
        have k2 : knG (tpC tl tp p) = 2 := kn_lab.mpr hl
        rw [k2, if_neg (show ¬ (2 : Int) = 3 by decide), if_neg (show ¬ tpC tl tp p = 46 by omega), if_pos rfl, if_neg h40, if_pos rfl, if_pos rfl]
        have I := readMarked_ok M0 bN hl f up
        cases hx : gP tl tp (f + 1) false b rl p N fo with
        | inl z =>
          rw [hx] at I
          obtain ⟨v, g4, o4, z⟩ := MRes_l' I
          rw [o4, ob_some]
          exact ⟨v, g4, rfl, z⟩
        | inr z =>
          obtain ⟨x, p3, fo1⟩ := z
          rw [hx] at I
          obtain ⟨g4, o4, z⟩ := MRes_r' I
          rw [o4, ob_some]
          exact ⟨g4, rfl, z⟩
      · have lf : ∀ (k l : Int) (dd : Dv), (k ≠ 2 → 0 ≤ l ∧ l < 26) → szT dd = 1 → (∀ R : Gm, Rw false R dd N k l 0 (-1) (-1) (upT up) → Hd false R dd N (upT up)) → tpC tl tp p ≠ -1 → MRes g tl tp N (upT up) (M_readChild_j62 (M_readBranch_G d) d 121 up p l k 121 g) (if rmN b N = false then .inl (3, p) else .inr (dd, blA tl tp (p + 1), fo)) := by
          intro k l dd hkl sz hdd hs
          unfold M_readChild_j62
          rw [if_pos kK_121]
          by_cases hr : rmN b N = false
          · have e27 : (errG g 3 p) 121 27 ≠ 0 := by rw [errG_27]; decide
            rw [if_pos hr, opens_n e12 e29 bd ok hr, ob_some, if_pos kK_121]
            simp only
            rw [good_n e27, ob_some, if_pos rfl]
            exact MRes_l ⟨_, _, rfl, by decide, errG_27 .., errG_28 .., GFr.err⟩
          · have hr' : rmN b N = true := by simpa using hr
            have ok2 : (nwM g N k l up) 121 27 = 0 := by rw [nw_121 (by decide)]; exact ok
            have T2 : TokG (nwM g N k l up) tl tp p := by
              unfold TokG
              rw [nw_121 (by decide), nw_121 (by decide), nw_121 (by decide), nw_121 (by decide)]
              exact T
            rw [if_neg hr, opens_y S e12 e29 bd ok hr', ob_some, if_pos kK_121]
            simp only
            obtain ⟨g3, a3, F3, T3, r0, r1⟩ := adv ((GFr.nw).he E) T2 p0 hs
            rw [good_y ok2, ob_some, if_neg (by decide), a3, ob_some]
            refine MRes_r ⟨g3, rfl, leaf_end GFr.rf ok rfl F3 (fun _ _ _ => rfl) T3 ?_ r1 sz hdd hkl⟩
            unfold FoM at fm ⊢
            rw [nw_121 (by decide)]
            exact fm
        unfold gP
        rw [if_neg h40, if_neg h40, if_neg hl]
        by_cases ht : isLt (tpC tl tp p) = true
        · have li := lt_in ht
          have k3 : knG (tpC tl tp p) = 3 := kn_let.mpr ht
          have v26 : g 121 26 = tpC tl tp p - 97 := by rw [T.2.2.1]; unfold vlG; rw [if_neg hl, if_pos ht]
          have toI : ((tpC tl tp p - 97).toNat : Int) = tpC tl tp p - 97 := by omega
          rw [if_pos ht, k3, if_pos rfl]
          unfold M_readChild_j32 M_readChild_j46
          rw [if_pos kK_121, if_pos kK_121, T.2.1, k3, if_pos rfl, if_pos rfl, v26]
          exact lf 1 (tpC tl tp p - 97) (.var (tpC tl tp p - 97).toNat) (fun _ => by omega) rfl (fun R hR => by
            show Rw false R _ N 1 (((tpC tl tp p - 97).toNat : Nat) : Int) 0 (-1) (-1) (upT up)
            rw [toI]; exact hR) (by omega)
        · have k3 : ¬ knG (tpC tl tp p) = 3 := fun z => ht (kn_let.mp z)
          have k2 : ¬ knG (tpC tl tp p) = 2 := fun z => hl (kn_lab.mp z)
          rw [if_neg ht, if_neg k3]
          by_cases h46 : tpC tl tp p = 46
          · rw [if_pos h46, if_neg (by decide), if_pos h46]
            unfold M_readChild_j32 M_readChild_j46
            rw [if_pos kK_121, if_pos kK_121, T.2.1, if_neg k3, if_neg k3]
            exact lf 2 (-1) .zero (fun z => absurd rfl z) rfl (fun R hR => hR) (by omega)
          · rw [if_neg h46, if_pos rfl, if_pos rfl, if_neg k2, errs_y ok, ob_some, if_neg h46]
            exact MRes_l ⟨_, _, rfl, by decide, errG_27 .., errG_28 .., GFr.err⟩
end
