/-! grammar: the class reads any part -/
theorem br_rows {e : Bool} {R : Gm} {x : Dv} {N u m q : Int} {tl : Int} {tp : Int → Int} (f : (∃ y, x = .intMul m y ∧ tpC tl tp q = 41) ∨ ∃ y z, x = .add y (.intMul m z)) (H : Hd e R x N u) : R 0 N = 0 ∧ R 3 N = N + 1 ∧ R 5 N = u ∧ (tpC tl tp q ≠ 41 → N < R 4 N) := by
  rcases f with ⟨y, rfl, h⟩ | ⟨y, z, rfl⟩
  · exact ⟨H.1.1.1, H.1.1.2.2.2.1, H.1.1.2.2.2.2.2, fun z => absurd h z⟩
  · refine ⟨H.1.1.1, H.1.1.2.2.2.1, H.1.1.2.2.2.2.2, fun _ => ?_⟩
    rw [H.1.1.2.2.2.2.1]
    omega
theorem gP_40 {tl p p1 b rl N : Int} {tp : Int → Int} {fo : Bool} {g : Nat} (h40 : tpC tl tp p = 40) (hp1 : blA tl tp (p + 1) = p1) : gP tl tp (g + 1) false b rl p N fo = (match gP tl tp g true b rl p1 N fo with
    | .inl e => .inl e
    | .inr (x, p', fo') => if tpC tl tp p' = 41 then .inr (x, blA tl tp (p' + 1), fo') else .inl (1, p')) := by
  conv => lhs; unfold gP
  rw [if_pos h40, hp1]
  rfl
section
variable {Q tl : Int} {tp : Int → Int}
theorem part_1 {f : Nat} {T b rl p N : Int} {fo : Bool} {h : Hp} {c : Int} {A : List Int} {t : Int} (C : CS h Q tl tp T b rl p N fo) (h5 : h 7 5 = c) (Pc : Pth (h (Q + 8)) b c A) (c1 : c < N) (bN : b < N) (h7 : h (Q + 7) c = -1) (h6 : h (Q + 6) c = -1 ∨ tpC tl tp p ≠ 41) (t0 : 0 ≤ t) (tq : t < p) (h40 : ¬ tpC tl tp p = 40) : CRes h Q tl tp T b rl p N c c c (c :: A) t (gP tl tp (f + 1) false b rl p N fo) := by
  have t4 := C.1.1.2.2.1
  have pp := C.2.2.2.2.2.2.2.1
  have b0 := C.2.2.2.2.1.1
  have cb := (Pth_in A c Pc).2 c List.mem_cons_self
  obtain ⟨h', e, R⟩ := part_leaf C h5 Pc c1 bN h7 h6 h40 f
  refine ⟨1, h', turn1 t0 (by omega) (by rw [h5]; omega) C.2.2.2.2.2.2.1 e, R, by omega, fun d q fx z => ?_⟩
  rw [z] at R
  have := (TRes_r' R).2.2.2.2.2.2
  omega
theorem part_ok : ∀ f : Nat, PartOK Q tl tp f
  | 0 => fun _ _ _ _ _ _ _ _ _ _ _ _ _ _ _ _ _ _ _ h _ => absurd h (by decide)
  | 1 => fun T b rl p N fo h c A t C h5 Pc c1 bN h7 h6 t0 tq f0 hf => by
    refine part_1 C h5 Pc c1 bN h7 h6 t0 tq (fun z => ?_)
    by_cases y : p < tl
    · omega
    · rw [tpC_out (by omega)] at z
      omega
  | f + 2 => fun T b rl p N fo h c A t C h5 Pc c1 bN h7 h6 t0 tq f0 hf => by
    by_cases h40 : tpC tl tp p = 40
    · have O := C.1.2.2.2.2.1
      have q22 := O.ge
      have t4 := C.1.1.2.2.1
      have pp := C.2.2.2.2.2.2.2.1
      have b0 := C.2.2.2.2.1.1
      have cb := (Pth_in A c Pc).2 c List.mem_cons_self
      obtain ⟨_, p10, p11, _⟩ := C.goOn (by omega)
      generalize hp1 : blA tl tp (p + 1) = p1 at p10 p11
      obtain ⟨h1, e1, fr1, D⟩ := opening_ok (P := c :: A) C (by omega) h5 (Or.inr ⟨by omega, c1, bN⟩) hp1
      have tr1 := turn1 (t := t) t0 (by omega) (by rw [h5]; omega) C.2.2.2.2.2.2.1 ((part_open C h5 (by omega) c1 h7 h40).trans e1)
      have ge : gP tl tp (f + 2) false b rl p N fo = (match gP tl tp (f + 1) true b rl p1 N fo with
        | .inl e => .inl e
        | .inr (x, p', fo') => if tpC tl tp p' = 41 then .inr (x, blA tl tp (p' + 1), fo') else .inl (1, p')) := by
        exact gP_40 h40 hp1
      rw [ge]
      rcases D with ⟨v, v0, d0, d1, dB, dg⟩ | ⟨li, rb, C1, c15, w1, E1, pl1, dg⟩
      · rw [dg f]
        exact ⟨1, h1, tr1, ⟨v0, d0, d1, dB, fr1⟩, by omega, fun d q fx z => absurd z (by simp)⟩
      · rw [dg f, if_neg (show ¬ N = b by omega)]
        rw [if_neg (show ¬ N = b by omega)] at C1
        have P1 : Pth (h1 (Q + 8)) b N (c :: A) := path_new C.2.1.1 Pc b0 c1 w1.2.2.2.2.2.2.1 (fun n n0 n1 => (E1 n n0 n1).1.2.2.2.2)
        have m2 : 0 ≤ mkA tl tp (blA tl tp (p1 + 1)) ∧ mkA tl tp (blA tl tp (p1 + 1)) ≤ 2 := by unfold mkA; split; decide; split <;> decide
        have pp1 := C1.2.2.2.2.2.2.2.1
        obtain ⟨k, h2, r2, R2, k400, kq⟩ := kids (t := t + ((1 : Nat) : Int)) (part_ok f) C1 c15 P1 w1 (by omega) m2 (by omega) (by omega) (by omega) (by omega)
        cases hk : kdR tl tp f b rl (mkP tl tp (blA tl tp (p1 + 1))) N fo (tpC tl tp p1 - 65 + 26 * mkA tl tp (blA tl tp (p1 + 1))) with
        | inl z =>
          rw [hk] at R2
          obtain ⟨a1, a2, a3, a4, a5⟩ := TRes_l' R2
          exact ⟨1 + k, h2, run_tr tr1 r2, ⟨a1, a2, a3, a4, fr1.tr a5⟩, by omega, fun d q fx z => absurd z (by simp)⟩
        | inr z =>
          obtain ⟨x, p3, fo1⟩ := z
          rw [hk] at R2
          obtain ⟨C2, d5, E2, H2, tr2, fr2, pl2⟩ := TRes_r' R2
          have kq2 := kq x p3 fo1 hk
          have sz := szT_pos x
          obtain ⟨x0, x3, x5, x4⟩ := br_rows (kdR_form hk) H2
          have x3 : h2 (Q + 6) N = N + 1 := x3
          have x5 : h2 (Q + 8) N = c := x5
          have ET : Eff Q h h2 N c (c :: A) (ltT x) (ftT x) := by
            have := E1.sum E2
            rw [Nat.zero_add, Nat.zero_add] at this
            exact this
          simp only
          have N0 : 0 ≤ N := by omega
          have pp2 := C2.2.2.2.2.2.2.2.1
          have cN : c ≠ -1 := by omega
          by_cases h41 : tpC tl tp p3 = 41
          · rw [if_pos h41]
            obtain ⟨_, q0, q1, C3⟩ := (C2.cur (v := c)).goOn (by omega)
            have tr3 := turn1 (t := t + ((1 : Nat) : Int) + k) (by omega) (by omega) (by rw [d5]; omega) C2.2.2.2.2.2.2.1 (part_close C2 d5 N0 (by omega) (by omega) x5 cN h41)
            refine ⟨1 + k + 1, _, run_tr (run_tr tr1 r2) (by rw [show t + ((1 + k : Nat) : Int) = t + ((1 : Nat) : Int) + k by omega]; exact tr3), TRes_r ⟨C3, ?_, (ET.of7 O (Of7.pt 5 c)).of7 O (Of7.pt 4 _), ?_, ?_, (((fr1.tr fr2).tr (CFr.p5 c)).tr (CFr.p4 _)), by omega⟩, by omega, fun d q fx e => ?_⟩
            · rw [hput_ne2 (by decide), hput_eq]
            · refine Hd_eq x _ _ H2 (fun i n i0 i1 _ _ => ?_)
              show (hput (hput h2 7 5 c) 7 4 (blA tl tp (p3 + 1))) (Q + (3 + i)) n = h2 (Q + (3 + i)) n
              rw [hput_ne1 (by omega), hput_ne1 (by omega)]
            · intro n n0 n1
              rw [hput_ne1 (by omega), hput_ne1 (by omega)]
              exact tr2 n n0 n1
            · injection e with e
              injection e with e1 e2
              injection e2 with e2 e3
              rw [← e2]; omega
          · rw [if_neg h41]
            have x4 : N < h2 (Q + 7) N := x4 h41
            have tr3 := turn1 (t := t + ((1 : Nat) : Int) + k) (by omega) (by omega) (by rw [d5]; omega) C2.2.2.2.2.2.2.1 (part_full C2 d5 N0 (by omega) (by omega) h41)
            obtain ⟨_, bt⟩ := C2.bad (c := c) (u := c) (cur := c) (P := c :: A) (v := 1) (by decide)
            obtain ⟨a1, a2, a3, a4, a5⟩ := TRes_l' bt
            exact ⟨1 + k + 1, _, run_tr (run_tr tr1 r2) (by rw [show t + ((1 + k : Nat) : Int) = t + ((1 : Nat) : Int) + k by omega]; exact tr3), ⟨a1, a2, a3, a4, (fr1.tr fr2).tr a5⟩, by omega, fun d q fx z => absurd z (by simp)⟩
    · exact part_1 C h5 Pc c1 bN h7 h6 t0 tq h40
end
