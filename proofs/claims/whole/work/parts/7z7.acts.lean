/-! every call that changes something keeps what holds between calls -/
section
variable {h h' h1 : Hp} {P n o8 : Int} {G : Gm} {row : Int → Int} {tl : Int} {tp : Int → Int} {wl : Int} {wd : Int → Int} {fk fp : Int}
theorem T4.vol (F : T4 h h') : Vol h h' := by
  intro c s hv
  refine F c s ?_ (vol_ne hv (fun s => by unfold volB; simp))
  by_cases e : c = 3
  · right
    intro z
    rw [e, z] at hv
    exact absurd hv (by decide)
  · exact Or.inl e
/-- what is kept doesn't lie where texts lie -/
theorem Kn_far (hP : P = 93 ∨ P = 107) (K : Kn h P G o8 n row) (e : ∀ c s, c = 0 ∧ (s = 17 ∨ s = 18) ∨ (c = 21 ∧ s < 4) ∨ c = 36 ∨ c = 37 ∨ c = P + 13 ∨ (c = P ∧ s = 5) ∨ (59 ≤ c ∧ c ≤ 70) ∨ (86 ≤ c ∧ c ≤ 92) → h' c s = h c s) : Kn h' P G o8 n row := by
  obtain ⟨k0, k6, k8, k7, k5, kL⟩ := K
  unfold Kn
  rw [e 0 17 (by omega), e 0 18 (by omega), e P 5 (by omega)]
  exact ⟨k0, fun z => CntOK_eq hP (k6 z) (fun s hs => e 21 s (by omega)) (fun s => e 36 s (by omega)) (fun s => e 37 s (by omega)) (fun s => e _ s (by omega)), fun z => FndOK_eq (fun c s a b => e c s (by omega)) (k8 z), k7, fun z => LsI_eq (k5 z) (e 92 5 (by omega)) (fun s => e _ s (by omega)), fun v hv hb m hm z => LsI_eq (kL v hv hb m hm z) (e 92 m (by omega)) (fun s => e _ s (by omega))⟩
theorem bth_tell {x : Option (Int × Hp)} {m : Hp → Option (Int × Hp)} (EX : EnX G) (J : IX h P G o8 n row tl tp wl wd fk fp) (I : IM h G o8 n row tl tp wl wd fk fp) (M : ∀ g, PreW h g P G o8 n row → g 121 56 = 155 → ∃ v h' g', x = some (v, h') ∧ m g = some (v, g') ∧ ∃ h1 g1, XA h h1 P G o8 n row ∧ LyF g g1 ∧ T4 h1 h' ∧ TF8 g1 g' ∧ ((h' = h1 ∧ g' = g1) ∨ ∃ wl wd, TolX h' wl wd ∧ TolM g' wl wd)) : Bth x m := by
  have pw : ∀ g, BM g G o8 n row → SShp g → PreW h g P G o8 n row := fun g b s => ⟨J.1, J.2.1.1, J.2.1.2.1, J.2.1.2.2.1, b, s⟩
  obtain ⟨v, h1, g1, e1, -, h2, g2, A1, -, T1, -, -⟩ := M h (pw h I.1 I.2.2.2.1) I.2.2.1.2.1
  have hi : Hi h h1 := fun c s z => by rw [T1.vol.hi c s z, A1.1.1.hi c s z]
  have I1 := IM_hi I hi
  obtain ⟨v', h1', g3, e2, m2, h2, g2, A2, F2, T2, T8, D⟩ := M h1 (pw h1 I1.1 I1.2.2.2.1) I1.2.2.1.2.1
  rw [e1] at e2
  injection e2 with e2
  injection e2 with ev eh
  subst ev
  subst eh
  have lo : Lo h1 g3 := fun c s z => by rw [T8 c s (Or.inl (by omega)) (by omega), F2.lo c s z]
  have X2 := IX_xa J A2
  have K1 : Kn h1 P G o8 n row := Kn_far (bx_P J.1) X2.2.1 (fun c s z => T2 c s (by have := bx_P J.1; omega) (by have := bx_P J.1; omega))
  have I2 := IM_lyf I1 F2
  rcases D with ⟨rfl, rfl⟩ | ⟨wl', wd', W1, W2⟩
  · exact ⟨v, h1, g3, e1, m2, P, G, o8, n, row, tl, tp, wl, wd, fk, fp, EX, IX_lo X2 lo, I2⟩
  · refine ⟨v, h1, g3, e1, m2, P, G, o8, n, row, tl, tp, wl', wd', fk, fp, EX, IX_lo ⟨BX_vol T2.vol X2.1, K1, TapX_eq X2.2.2.1 (T2 1 1 (by decide) (by decide)) (fun i => T2 2 i (by omega) (by decide)), W1, by rw [T2 7 0 (by decide) (by decide)]; exact X2.2.2.2.2.1, by rw [T2 7 1 (by decide) (by decide)]; exact X2.2.2.2.2.2⟩ lo, ?_⟩
    obtain ⟨B, T, _, S, e59, f0, f1⟩ := I2
    refine ⟨BM_eq B (fun s z => T8 121 s (Or.inr (by omega)) (by decide)) (fun c s z => T8 c s (Or.inl (by omega)) (by omega)), TapM_eq T (T8 121 20 (Or.inr (by decide)) (by decide)) (fun i => T8 135 i (Or.inl (by decide)) (by decide)), W2, fun q hq => ?_, by rw [T8 121 59 (Or.inr (by decide)) (by decide)]; exact e59, by rw [T8 121 27 (Or.inr (by decide)) (by decide)]; exact f0, by rw [T8 121 28 (Or.inr (by decide)) (by decide)]; exact f1⟩
    have : ∀ q ∈ ssL, q.1 ≠ 57 ∧ q.1 ≠ 58 := by decide
    rw [T8 121 q.1 (Or.inr (this q hq)) (by decide)]
    exact S q hq
end
section
variable {h : Hp} {d : Nat}
theorem k_tell (I : Inv h) (hd : 1960 ≤ d) (k : Int) : Bth (X_tell 0 k h) (fun g => M_tell d 121 k g) := by
  obtain ⟨P, G, o8, n, row, tl, tp, wl, wd, fk, fp, EX, J, M⟩ := I
  exact bth_tell EX J M (fun g A e => tell_ok A e (d := d) (by omega) k)
theorem k_tellWay (I : Inv h) (hd : 1960 ≤ d) (k : Int) : Bth (X_tellWay 0 k h) (fun g => M_tellWay d 121 k g) := by
  obtain ⟨P, G, o8, n, row, tl, tp, wl, wd, fk, fp, EX, J, M⟩ := I
  exact bth_tell EX J M (fun g A e => tellWay_ok A e (d := d) (by omega) k)
theorem k_test (I : Inv h) (hd : 1960 ≤ d) : Bth (X_test 0 h) (fun g => M_test d 121 g) := by
  obtain ⟨P, G, o8, n, row, tl, tp, wl, wd, fk, fp, EX, J, I⟩ := I
  have hP := bx_P J.1
  obtain ⟨v, h1, g1, e1, -, A1, -⟩ := test_ok J.1 I.1 I.2.2.2.1 I.2.2.1.2.1 I.2.2.2.2.1 J.2.2.1 I.2.1 (d := d) (by omega)
  have hi := A1.vol.hi
  have I1 := IM_hi I hi
  obtain ⟨v', h1', g3, e2, m2, A2, F2, t1, t2, D⟩ := test_ok J.1 I1.1 I1.2.2.2.1 I1.2.2.1.2.1 I1.2.2.2.2.1 J.2.2.1 I1.2.1 (d := d) (by omega)
  rw [e1] at e2
  injection e2 with e2
  injection e2 with ev eh
  subst ev
  subst eh
  have lo : Lo h1 g3 := fun c s z => F2 c s (Or.inl (by omega)) (by omega) (by omega)
  have K1 : Kn h1 P G o8 n row := Kn_far hP J.2.1 (fun c s z => A2 c s (by omega) (by omega) (by omega) (by omega) (by omega) (by omega) (by omega) (by omega))
  have TX : TapX h1 0 tp := ⟨t1, by decide, by decide, fun i i0 i1 => by omega⟩
  have TM : TapM g3 0 tp := ⟨t2, fun i i0 i1 => by omega⟩
  have f0 : h1 7 0 = fk := by rw [A2 7 0 (by decide) (by decide) (by decide) (by decide) (by decide) (by decide) (by decide) (by decide)]; exact J.2.2.2.2.1
  have f1 : h1 7 1 = fp := by rw [A2 7 1 (by decide) (by decide) (by decide) (by decide) (by decide) (by decide) (by decide) (by decide)]; exact J.2.2.2.2.2
  have at3 : ∀ s, (s ≤ 19 ∨ s = 21 ∨ (27 ≤ s ∧ s ≤ 47) ∨ (49 ≤ s ∧ s ≤ 56) ∨ s = 59) → g3 121 s = h1 121 s := fun s z => F2 121 s (Or.inr (by omega)) (by decide) (by decide)
  have B3 : BM g3 G o8 n row := BM_eq I1.1 (fun s z => at3 s (by omega)) (fun c s z => F2 c s (Or.inl (by omega)) (by omega) (by omega))
  have S3 : SShp g3 := fun q hq => by
    have : ∀ q ∈ ssL, 49 ≤ q.1 ∧ q.1 ≤ 56 := by decide
    have := this q hq
    rw [at3 q.1 (by omega)]
    exact I1.2.2.2.1 q hq
  have fin : ∀ wl' wd', TolX h1 wl' wd' → TolM g3 wl' wd' → Bth (X_test 0 h) (fun g => M_test d 121 g) := fun wl' wd' W1 W2 =>
    ⟨v, h1, g3, e1, m2, P, G, o8, n, row, 0, tp, wl', wd', fk, fp, EX, IX_lo ⟨BX_vol A2.vol J.1, K1, TX, W1, f0, f1⟩ lo, B3, TM, W2, S3, by rw [at3 59 (by decide)]; exact I1.2.2.2.2.1, by rw [at3 27 (by decide)]; exact I1.2.2.2.2.2.1, by rw [at3 28 (by decide)]; exact I1.2.2.2.2.2.2⟩
  rcases D with ⟨d1, d2, d3, d4⟩ | ⟨wl', wd', W1, W2⟩
  · exact fin wl wd (TolX_eq J.2.2.2.1 d1 d2) (TolM_eq I1.2.2.1 d3 (at3 56 (by decide)) d4)
  · exact fin wl' wd' W1 W2
theorem k_feed (I : Inv h) {a b c e f : Int} (ra : r32 a) (rb : r32 b) (rc : r32 c) (re : r32 e) (rf : r32 f) : Bth (X_feed 0 a b c e f h) (fun g => M_feed 121 a b c e f g) := by
  obtain ⟨P, G, o8, n, row, tl, tp, wl, wd, fk, fp, EX, J, I⟩ := I
  have hP := bx_P J.1
  obtain ⟨h1, e1, T1, F1⟩ := X_feed_ok (bx_sx J.1) J.2.2.1 ra rb rc re rf
  have V : Vol h h1 := by
    intro x s hv
    refine F1 x s ?_ (vol_ne hv (fun s => by unfold volB; simp))
    by_cases z : x = 1
    · right
      intro y
      rw [z, y] at hv
      exact absurd hv (by decide)
    · exact Or.inl z
  have I1 := IM_hi I V.hi
  obtain ⟨h2, e2, T2, F2⟩ := M_feed_ok I1.1.1 I1.2.1 J.2.2.1.2.1 J.2.2.1.2.2.1 a b c e f
  have K1 : Kn h1 P G o8 n row := Kn_far hP J.2.1 (fun x s z => F1 x s (by omega) (by omega))
  refine ⟨_, h1, h2, e1, e2, P, G, o8, n, row, _, _, wl, wd, fk, fp, EX, IX_lo ⟨BX_vol V J.1, K1, T1, TolX_eq J.2.2.2.1 (F1 3 1 (by decide) (by decide)) (fun i => F1 4 i (by omega) (by decide)), by rw [F1 7 0 (by decide) (by decide)]; exact J.2.2.2.2.1, by rw [F1 7 1 (by decide) (by decide)]; exact J.2.2.2.2.2⟩ (fun x s z => F2 x s (by omega) (by omega) (by omega)), ?_⟩
  obtain ⟨B, _, W, S, e59, f0, f1⟩ := I1
  refine ⟨BM_eq B (fun s z => F2 121 s (Or.inr (by omega)) (by decide) (by decide)) (fun x s z => F2 x s (Or.inl (by omega)) (by omega) (by omega)), T2, TolM_eq W (F2 121 57 (Or.inr (by decide)) (by decide) (by decide)) (F2 121 56 (Or.inr (by decide)) (by decide) (by decide)) (fun i => F2 155 i (Or.inl (by decide)) (by decide) (by decide)), fun q hq => ?_, by rw [F2 121 59 (Or.inr (by decide)) (by decide) (by decide)]; exact e59, by rw [F2 121 27 (Or.inr (by decide)) (by decide) (by decide)]; exact f0, by rw [F2 121 28 (Or.inr (by decide)) (by decide) (by decide)]; exact f1⟩
  have : ∀ q ∈ ssL, q.1 ≠ 20 := by decide
  rw [F2 121 q.1 (Or.inr (this q hq)) (by decide) (by decide)]
  exact S q hq
/-- the tape alone is another one -/
theorem tape_both {P n o8 : Int} {G : Gm} {row : Int → Int} {tl : Int} {tp : Int → Int} {wl : Int} {wd : Int → Int} {fk fp tl' : Int} {tp' : Int → Int} {h1 h2 : Hp} (J : IX h P G o8 n row tl tp wl wd fk fp) (I : IM h G o8 n row tl tp wl wd fk fp) (F1 : ∀ c s, (c ≠ 1 ∨ s ≠ 1) → h1 c s = h c s) (T1 : TapX h1 tl' tp') : IX h1 P G o8 n row tl' tp' wl wd fk fp ∧ IM h1 G o8 n row tl tp wl wd fk fp ∧ (TapM h2 tl' tp' → (∀ c s, (c ≠ 121 ∨ s ≠ 20) → h2 c s = h1 c s) → IX h2 P G o8 n row tl' tp' wl wd fk fp ∧ IM h2 G o8 n row tl' tp' wl wd fk fp) := by
  have hP := bx_P J.1
  have V : Vol h h1 := by
    intro x s hv
    refine F1 x s ?_
    by_cases z : x = 1
    · right
      intro y
      rw [z, y] at hv
      exact absurd hv (by decide)
    · exact Or.inl z
  have I1 := IM_hi I V.hi
  have K1 : Kn h1 P G o8 n row := Kn_far hP J.2.1 (fun x s z => F1 x s (by omega))
  have J1 : IX h1 P G o8 n row tl' tp' wl wd fk fp := ⟨BX_vol V J.1, K1, T1, TolX_eq J.2.2.2.1 (F1 3 1 (by decide)) (fun i => F1 4 i (by omega)), by rw [F1 7 0 (by decide)]; exact J.2.2.2.2.1, by rw [F1 7 1 (by decide)]; exact J.2.2.2.2.2⟩
  refine ⟨J1, I1, fun T2 F2 => ⟨IX_lo J1 (fun x s z => F2 x s (by omega)), ?_⟩⟩
  obtain ⟨B, _, W, S, e59, f0, f1⟩ := I1
  refine ⟨BM_eq B (fun s z => F2 121 s (Or.inr (by omega))) (fun x s z => F2 x s (Or.inl (by omega))), T2, TolM_eq W (F2 121 57 (Or.inr (by decide))) (F2 121 56 (Or.inr (by decide))) (fun i => F2 155 i (Or.inl (by decide))), fun q hq => ?_, by rw [F2 121 59 (Or.inr (by decide))]; exact e59, by rw [F2 121 27 (Or.inr (by decide))]; exact f0, by rw [F2 121 28 (Or.inr (by decide))]; exact f1⟩
  have : ∀ q ∈ ssL, q.1 ≠ 20 := by decide
  rw [F2 121 q.1 (Or.inr (this q hq))]
  exact S q hq
theorem k_end (I : Inv h) (m : Int) : Bth (X_end 0 m h) (fun g => M_end 121 m g) := by
  obtain ⟨P, G, o8, n, row, tl, tp, wl, wd, fk, fp, EX, J, I⟩ := I
  obtain ⟨h1, e1, T1, F1⟩ := X_end_ok (bx_sx J.1) J.2.2.1 m
  have tb := tape_both (h2 := h1) J I F1 T1
  obtain ⟨h2, e2, T2, F2⟩ := M_end_ok tb.2.1.2.1 J.2.2.1.2.1 m
  have tb := (tape_both (h2 := h2) J I F1 T1).2.2 T2 F2
  exact ⟨_, h1, h2, e1, e2, P, G, o8, n, row, _, _, wl, wd, fk, fp, EX, tb.1, tb.2⟩
theorem and31_tab : ∀ x : Fin 512, (0 ≤ i_and ((x.val : Nat) : Int) 31 ∧ i_and ((x.val : Nat) : Int) 31 < 512) ∧ ∀ t : Fin 9, bit (i_and ((x.val : Nat) : Int) 31) ((t.val : Nat) : Int) = if t.val < 5 then bit ((x.val : Nat) : Int) ((t.val : Nat) : Int) else 0 := by decide +kernel
theorem and31 {x : Int} (x0 : 0 ≤ x) (x1 : x < 512) : (0 ≤ i_and x 31 ∧ i_and x 31 < 512) ∧ ∀ t, 0 ≤ t → t < 9 → bit (i_and x 31) t = if t < 5 then bit x t else 0 := by
  have a := and31_tab ⟨x.toNat, by omega⟩
  simp only at a
  rw [show ((x.toNat : Nat) : Int) = x by omega] at a
  refine ⟨a.1, fun t t0 t1 => ?_⟩
  have b := a.2 ⟨t.toNat, by omega⟩
  simp only at b
  rw [show ((t.toNat : Nat) : Int) = t by omega] at b
  rw [b]
  by_cases z : t < 5
  · rw [if_pos z, if_pos (by omega)]
  · rw [if_neg z, if_neg (by omega)]
theorem k_say (I : Inv h) : Bth (X_say 0 h) (fun g => M_say 121 g) := by
  obtain ⟨P, G, o8, n, row, tl, tp, wl, wd, fk, fp, EX, J, I⟩ := I
  have hP := bx_P J.1
  rcases X_say_ok (bx_sx J.1) J.2.2.1 with ⟨sp, h1, e1, t1, L1, k1, F1⟩ | ⟨ns, h1, e1, t1, F1⟩
  · have hi : Hi h h1 := fun c s z => F1 c s (by omega) (by omega) (by omega) (by omega)
    have I1 := IM_hi I hi
    rcases M_say_ok I1.1.1 I1.2.1 J.2.2.1.2.1 J.2.2.1.2.2.1 with ⟨-, h2, e2, t2, L2, F2⟩ | ⟨ns, -⟩
    · have B1 : BX h1 P G o8 tl (fun i => tp i - 97) := by
        obtain ⟨S, X, L⟩ := J.1
        refine ⟨?_, ?_, L1⟩
        · intro q hq
          have : ∀ q ∈ shX, (q.1 ≠ 1 ∨ q.2.1 ≠ 1) ∧ (q.1 ≠ 5 ∨ q.2.1 ≠ 1) ∧ q.1 ≠ 6 ∧ (q.1 ≠ 0 ∨ q.2.1 ≠ 17) := by decide
          obtain ⟨a1, a2, a3, a4⟩ := this q hq
          rw [F1 _ _ a1 a2 a3 a4]
          exact S q hq
        · obtain ⟨_, x15, x16, gs, R, x⟩ := X
          have e : ∀ c s, 93 ≤ c → h1 c s = h c s := fun c s z => F1 c s (by omega) (by omega) (by omega) (by omega)
          refine ⟨hP, by rw [F1 0 15 (by decide) (by decide) (by decide) (by decide)]; exact x15, by rw [F1 0 16 (by decide) (by decide) (by decide) (by decide)]; exact x16, ?_, RepX_eq R (fun k s k0 k1 => e _ s (by omega)), ?_⟩
          · unfold GShp at gs ⊢
            simp only [e _ _ (show 93 ≤ 200 - P by omega)]
            exact gs
          · simp only [e P _ (show 93 ≤ P by omega)]
            exact x
      have K1 : Kn h1 P G o8 tl (fun i => tp i - 97) := by
        obtain ⟨k0, k6, k8, k7, k5, kL⟩ := J.2.1
        have o := and31 k0.1 k0.2
        have nb : ∀ t, 5 ≤ t → t < 9 → bit (h1 0 17) t ≠ 1 := fun t a b => by rw [k1, o.2 t (by omega) b, if_neg (by omega)]; decide
        refine ⟨by rw [k1]; exact o.1, fun z => absurd z (nb 6 (by decide) (by decide)), fun z => absurd z (nb 8 (by decide) (by decide)), fun z => absurd z (nb 7 (by decide) (by decide)), fun z => absurd z (nb 5 (by decide) (by decide)), fun v hv hb m hm z => ?_⟩
        rw [k1, o.2 m (by omega) (by omega), if_pos (by omega)] at z
        rw [F1 P 5 (by omega) (by omega) (by omega) (by omega)] at hv
        exact LsI_eq (kL v hv hb m hm z) (F1 92 m (by omega) (by omega) (by omega) (by omega)) (fun s => F1 _ s (by omega) (by omega) (by omega) (by omega))
      have TX : TapX h1 0 tp := ⟨t1, by decide, by decide, fun i i0 i1 => by omega⟩
      refine ⟨_, h1, h2, e1, e2, P, G, o8, tl, _, 0, tp, wl, wd, fk, fp, EX, IX_lo ⟨B1, K1, TX, TolX_eq J.2.2.2.1 (F1 3 1 (by decide) (by decide) (by decide) (by decide)) (fun i => F1 4 i (by omega) (by omega) (by decide) (by omega)), by rw [F1 7 0 (by decide) (by decide) (by decide) (by decide)]; exact J.2.2.2.2.1, by rw [F1 7 1 (by decide) (by decide) (by decide) (by decide)]; exact J.2.2.2.2.2⟩ (fun x s z => F2 x s (by omega) (by omega)), ?_⟩
      obtain ⟨⟨Ms, Sp, Gm', Gi, ob', Lm⟩, _, W, S, e59, f0, f1⟩ := I1
      refine ⟨⟨fun q hq => ?_, SpM_eq Sp (fun c s a b => F2 c s (by omega) (by omega)), ?_, Gi, ob', L2⟩, ⟨t2, fun i i0 i1 => by omega⟩, TolM_eq W (F2 121 57 (Or.inr (by decide)) (by decide)) (F2 121 56 (Or.inr (by decide)) (by decide)) (fun i => F2 155 i (Or.inl (by decide)) (by decide)), fun q hq => ?_, by rw [F2 121 59 (Or.inr (by decide)) (by decide)]; exact e59, by rw [F2 121 27 (Or.inr (by decide)) (by decide)]; exact f0, by rw [F2 121 28 (Or.inr (by decide)) (by decide)]; exact f1⟩
      · have : ∀ q ∈ msL, q.1 ≠ 20 ∧ q.1 ≠ 32 := by decide
        rw [F2 121 q.1 (Or.inr (this q hq)) (by decide)]
        exact Ms q hq
      · have ec : ∀ c s, 122 ≤ c → c ≤ 134 → h2 c s = h1 c s := fun c s a b => F2 c s (by omega) (by omega)
        unfold GM at Gm' ⊢
        rw [F2 121 1 (Or.inr (by decide)) (by decide), F2 121 2 (Or.inr (by decide)) (by decide), F2 121 3 (Or.inr (by decide)) (by decide)]
        simp only [ec 122 _ (by decide) (by decide), ec 123 _ (by decide) (by decide), ec 124 _ (by decide) (by decide), ec 125 _ (by decide) (by decide), ec 126 _ (by decide) (by decide), ec 127 _ (by decide) (by decide), ec 128 _ (by decide) (by decide), ec 129 _ (by decide) (by decide), ec 130 _ (by decide) (by decide), ec 131 _ (by decide) (by decide), ec 132 _ (by decide) (by decide), ec 133 _ (by decide) (by decide), ec 134 _ (by decide) (by decide)]
        exact Gm'
      · have : ∀ q ∈ ssL, q.1 ≠ 20 ∧ q.1 ≠ 32 := by decide
        rw [F2 121 q.1 (Or.inr (this q hq)) (by decide)]
        exact S q hq
    · exact absurd sp ns
  · have TX : TapX h1 0 tp := ⟨t1, by decide, by decide, fun i i0 i1 => by omega⟩
    have tb := tape_both (h2 := h1) J I F1 TX
    rcases M_say_ok tb.2.1.1.1 tb.2.1.2.1 J.2.2.1.2.1 J.2.2.1.2.2.1 with ⟨sp, -⟩ | ⟨-, h2, e2, t2, F2⟩
    · exact absurd sp ns
    · have tb := (tape_both (h2 := h2) J I F1 TX).2.2 ⟨t2, fun i i0 i1 => by omega⟩ F2
      exact ⟨_, h1, h2, e1, e2, P, G, o8, n, row, _, _, wl, wd, fk, fp, EX, tb.1, tb.2⟩
theorem hput_same {a b v : Int} (e : h a b = v) : hput h a b v = h := by
  funext x y
  by_cases z : x = a ∧ y = b
  · rw [z.1, z.2, hput_eq, e]
  · exact hput_no (by omega)
theorem k_out (I : Inv h) (t on : Int) : Bth (X_out 0 t on h) (fun g => M_out 121 t on g) := by
  have I0 := I
  obtain ⟨P, G, o8, n, row, tl, tp, wl, wd, fk, fp, EX, J, I⟩ := I
  have hP := bx_P J.1
  have oo := bx_ob J.1
  rcases X_out_ok J.1 t on with ⟨c, ⟨o, e1⟩ | ⟨o, e1⟩⟩ | ⟨c, e1⟩
  · rcases M_out_ok I.1 t on with ⟨-, e2⟩ | ⟨c', -⟩
    · rw [if_pos o, o, hput_same I.1.2.2.1.2.2.1] at e2
      exact ⟨0, h, h, e1, e2, I0⟩
    · exact absurd c c'
  · have on' : on = 0 ∨ on = 1 := by omega
    have nt := wf_nt (bx_W J.1)
    have ov := outV_ok (ob := o8) oo.2.1 oo.2.2 c.1 (by omega) on'
    generalize outV o8 t on = o' at o e1 ov
    have e : ∀ x s, (x ≠ P ∨ s ≠ 4) → (x ≠ 0 ∨ s ≠ 17) → (hput (hput h P 4 o') 0 17 0) x s = h x s := fun x s a b => by rw [hput_no b, hput_no a]
    have e4 : (hput (hput h P 4 o') 0 17 0) P 4 = o' := by rw [hput_ne1 (by omega), hput_eq]
    have e17 : (hput (hput h P 4 o') 0 17 0) 0 17 = 0 := hput_eq ..
    generalize hh1 : hput (hput h P 4 o') 0 17 0 = h1 at e1 e e4 e17
    have hi : Hi h h1 := fun x s z => e x s (by omega) (by omega)
    have I1 := IM_hi I hi
    have B1 : BX h1 P G o' n row := by
      obtain ⟨S, X, L⟩ := J.1
      refine ⟨?_, ?_, ?_⟩
      · intro q hq
        have : ∀ q ∈ shX, q.1 < 93 ∧ (q.1 ≠ 0 ∨ q.2.1 ≠ 17) := by decide
        obtain ⟨a1, a2⟩ := this q hq
        rw [e _ _ (by omega) a2]
        exact S q hq
      · obtain ⟨_, x15, x16, gs, R, gi, x4, xo, xm, xl⟩ := X
        have eP : ∀ s, s ≠ 4 → h1 P s = h P s := fun s hs => e P s (Or.inr hs) (by omega)
        have eR : ∀ k s, 1 ≤ k → k < 14 → h1 (P + k) s = h (P + k) s := fun k s k0 k1 => e _ s (by omega) (by omega)
        refine ⟨hP, by rw [e 0 15 (by omega) (by decide)]; exact x15, by rw [e 0 16 (by omega) (by decide)]; exact x16, ?_, ?_, gi, e4, ⟨ov.2.2.1, ov.2.2.2⟩, ?_, ?_⟩
        · have eQ : ∀ s, h1 (200 - P) s = h (200 - P) s := fun s => e _ s (by omega) (by omega)
          unfold GShp at gs ⊢
          simp only [eQ]
          exact gs
        · unfold RepX GShp at R ⊢
          rw [eP 0 (by decide), eP 1 (by decide), eP 6 (by decide), eP 7 (by decide), eP 8 (by decide), eP 9 (by decide), eP 10 (by decide), eP 11 (by decide), eP 12 (by decide), eP 13 (by decide), eP 14 (by decide), eP 15 (by decide), eP 16 (by decide), eP 17 (by decide), eP 18 (by decide)]
          simp only [eR 1 _ (by decide) (by decide), eR 2 _ (by decide) (by decide), eR 3 _ (by decide) (by decide), eR 4 _ (by decide) (by decide), eR 5 _ (by decide) (by decide), eR 6 _ (by decide) (by decide), eR 7 _ (by decide) (by decide), eR 8 _ (by decide) (by decide), eR 9 _ (by decide) (by decide), eR 10 _ (by decide) (by decide), eR 11 _ (by decide) (by decide), eR 12 _ (by decide) (by decide), eR 13 _ (by decide) (by decide)]
          exact R
        · rw [eP 2 (by decide), eP 3 (by decide)]; exact xm
        · rw [eP 5 (by decide)]; exact xl
      · have e5 : ∀ i, h1 5 i = h 5 i := fun i => e 5 i (by omega) (by omega)
        have e6 : ∀ i, h1 6 i = h 6 i := fun i => e 6 i (by omega) (by omega)
        unfold LetX at L ⊢
        simp only [e5, e6]
        exact L
    rcases M_out_ok I1.1 t on with ⟨-, e2⟩ | ⟨c', -⟩
    · refine ⟨1, h1, _, e1, ?_, P, G, o', n, row, tl, tp, wl, wd, fk, fp, EX, IX_lo ⟨B1, Kn_0 e17, TapX_eq J.2.2.1 (e 1 1 (by omega) (by decide)) (fun i => e 2 i (by omega) (by omega)), TolX_eq J.2.2.2.1 (e 3 1 (by omega) (by decide)) (fun i => e 4 i (by omega) (by omega)), by rw [e 7 0 (by omega) (by decide)]; exact J.2.2.2.2.1, by rw [e 7 1 (by omega) (by decide)]; exact J.2.2.2.2.2⟩ (h' := hput h1 121 3 o') (fun x s z => hput_ne1 (by omega)), ?_⟩
      · have hov : outV o8 t on = o' := by
          rcases on' with rfl | rfl
          · by_cases hb : bit o8 t = 0
            · exact absurd (ov.1 hb) o
            · have q := outV_ok (ob := o8) oo.2.1 oo.2.2 c.1 (show t < 8 by omega) (on := 0) (Or.inl rfl)
              rw [← (q.2.1 hb).1, (ov.2.1 hb).1]
          · by_cases hb : bit o8 t = 1
            · exact absurd (ov.1 hb) o
            · have q := outV_ok (ob := o8) oo.2.1 oo.2.2 c.1 (show t < 8 by omega) (on := 1) (Or.inr rfl)
              rw [← (q.2.1 hb).1, (ov.2.1 hb).1]
        rw [hov, if_neg o] at e2
        exact e2
      · obtain ⟨⟨Ms, Sp, Gm', Gi, ob', Lm⟩, T, W, S, e59, f0, f1⟩ := I1
        have f : ∀ x s, (x ≠ 121 ∨ s ≠ 3) → (hput h1 121 3 o') x s = h1 x s := fun x s z => hput_no z
        refine ⟨⟨fun q hq => ?_, SpM_eq Sp (fun c s a b => f c s (by omega)), ?_, Gi, ⟨ov.2.2.1, ov.2.2.2⟩, LetM_eq Lm (f 121 32 (by decide)) (fun s => f 137 s (by omega))⟩, TapM_eq T (f 121 20 (by decide)) (fun i => f 135 i (by omega)), TolM_eq W (f 121 57 (by decide)) (f 121 56 (by decide)) (fun i => f 155 i (by omega)), fun q hq => ?_, by rw [f 121 59 (by decide)]; exact e59, by rw [f 121 27 (by decide)]; exact f0, by rw [f 121 28 (by decide)]; exact f1⟩
        · have : ∀ q ∈ msL, q.1 ≠ 3 := by decide
          rw [f 121 q.1 (Or.inr (this q hq))]
          exact Ms q hq
        · have ec : ∀ c s, 122 ≤ c → (hput h1 121 3 o') c s = h1 c s := fun c s a => f c s (by omega)
          obtain ⟨m1, m2, m3, mr⟩ := Gm'
          refine ⟨by rw [f 121 1 (by decide)]; exact m1, by rw [f 121 2 (by decide)]; exact m2, hput_eq .., ?_⟩
          simp only [ec 122 _ (by decide), ec 123 _ (by decide), ec 124 _ (by decide), ec 125 _ (by decide), ec 126 _ (by decide), ec 127 _ (by decide), ec 128 _ (by decide), ec 129 _ (by decide), ec 130 _ (by decide), ec 131 _ (by decide), ec 132 _ (by decide), ec 133 _ (by decide), ec 134 _ (by decide)]
          exact mr
        · have : ∀ q ∈ ssL, q.1 ≠ 3 := by decide
          rw [f 121 q.1 (Or.inr (this q hq))]
          exact S q hq
    · exact absurd c c'
  · rcases M_out_ok I.1 t on with ⟨c', -⟩ | ⟨-, e2⟩
    · exact absurd c' c
    · exact ⟨-2, h, h, e1, e2, I0⟩
end
