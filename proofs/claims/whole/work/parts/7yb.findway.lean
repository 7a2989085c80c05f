/-! the class: a way is found and unfolded -/
/-- the class holds the way t, d -/
def XWay (h : Hp) (G : Gm) (t : Int) (d : Dv) : Prop := XTb h 59 (stW G t d) ∧ TxU h 59 (uT G (stW G t d) d 0 (ft G t) []) ∧ LtU h 59 G (stW G t d) (uY G (stW G t d) d 0 (ft G t) []) ∧ NuU h 59 (uD G (stW G t d) d 0 (ft G t) 0) (uB G (stW G t d) d 0 (ft G t) 0) 0 ∧ HdU h 59 G (stW G t d) (uY G (stW G t d) d 0 (ft G t) [])
section
variable {h h' g : Hp} {P o8 n : Int} {G : Gm} {row : Int → Int} {ou : Int → Bool}
theorem stW_At (I : GIn G) {t : Int} {d : Dv} (t0 : 0 ≤ t) (t1 : t < nT G) (sh : Sh G d 1 (ft G t)) : At G (stW G t d) 0 (stW G t d).length d 0 1 (ft G t) ∧ uY G (stW G t d) d 0 (ft G t) [] = yl G d 0 (ft G t) [] 1 ∧ (stW G t d).length = dst d + 1 ∧ sEnt (stW G t d) 0 = (t, -1, -1) := by
  have W := I.1
  obtain ⟨en, E⟩ := I.2.2
  have hr := root_in W t0 t1
  have p1 : ∀ n', sPut [(t, -1, -1)] 0 n' = -1 := by
    intro n'
    show (if (-1 : Int) = 0 ∧ (-1 : Int) = n' then _ else (-1 : Int)) = -1
    rw [if_neg (by omega)]
  have fr : Fresh [(t, -1, -1)] := by
    intro s' n' hs'
    have hs'' : (1 : Int) ≤ s' := hs'
    show (if (-1 : Int) = s' ∧ (-1 : Int) = n' then _ else (-1 : Int)) = -1
    rw [if_neg (by omega)]
  have a := lay_At W E d 0 1 (ft G t) [(t, -1, -1)] sh hr.1 hr.2.1 (by show (0 : Int) < ((1 : Nat) : Int); decide) (fun _ => p1 _) (fun _ n' _ _ => p1 _) fr
  have b := lay_Y W E d 0 1 (ft G t) [(t, -1, -1)] [] sh hr.1 hr.2.1 (by show (0 : Int) < ((1 : Nat) : Int); decide) (fun _ => p1 _) (fun _ n' _ _ => p1 _) fr
  have c := lay_len (G := G) d 0 (ft G t) [(t, -1, -1)]
  have e := lay_ent (G := G) d 0 (ft G t) [(t, -1, -1)] 0 (by show (0 : Int) < ((1 : Nat) : Int); decide)
  refine ⟨At_wide W E (by show (0 : Int) ≤ ((1 : Nat) : Int); decide) (Int.le_refl _) hr.1 hr.2.1 a.1, b, ?_, e⟩
  show (lay G d 0 (ft G t) [(t, -1, -1)]).length = dst d + 1
  rw [c]
  show 1 + dst d = dst d + 1
  omega
theorem way_bd (I : GIn G) {st : St} {t : Int} {d : Dv} (t0 : 0 ≤ t) (t1 : t < nT G) (hs : sp G (ft G t) = 0) (sh : Sh G d 1 (ft G t)) (hd : dst d ≤ 47) : uW G st d 0 (ft G t) 0 ≤ 576 ∧ uC G st d 0 (ft G t) 0 ≤ 4000 ∧ (uT G st d 0 (ft G t) []).length + 1 ≤ 48 * (dst d + 1) ∧ (uY G st d 0 (ft G t) []).length ≤ 12 * (dst d + 1) ∧ uD G st d 0 (ft G t) 0 ≤ 12 * (dst d + 1) ∧ uB G st d 0 (ft G t) 0 ≤ 12 * (dst d + 1) := by
  have W := I.1
  obtain ⟨en, E⟩ := I.2.2
  have hr := root_in W t0 t1
  have e2 := E.2 t t0 t1
  have sw := (wf_step W t0 t1).2
  have hz : ¬ sp G (ft G t) = 1 := by omega
  refine ⟨?_, ?_, ?_, ?_, ?_, ?_⟩
  · have := (uf_bd (st := st) (lt := fun _ _ => (1 : Nat)) (em := 1) (fo := fun x => x + 1) (im := id) (b1 := fun _ x => x + 1) (b2 := fun _ x y => x + y + 1) W E id 1 0 (fun _ _ => Nat.le_refl _) (Nat.le_refl _) (fun _ => Nat.le_refl _) (fun _ => Nat.le_refl _) (fun _ _ => Nat.le_refl _) (fun _ _ _ => Nat.le_refl _) d 0 1 (ft G t) 0 sh hr.1 hr.2.1).1 (by decide)
    rw [if_neg hz] at this
    have t2 : uW G st d 0 (ft G t) 0 ≤ 1 * (en (ft G t) - ft G t).toNat + (12 * 1 + 0) * dst d + 0 := this
    omega
  · have := (uf_bd (st := st) (lt := fun _ _ => (1 : Nat)) (em := 1) (fo := fun x => x + 1) (im := fun x => x + 1) (b1 := fun _ x => x + 2) (b2 := fun _ x y => x + y + 2) W E id 3 1 (fun _ _ => by show 1 ≤ 3; omega) (by show 1 ≤ 3; omega) (fun x => by show x + 1 ≤ x + 3; omega) (fun _ => Nat.le_refl _) (fun _ x => by show x + 2 ≤ x + 3; omega) (fun _ x y => by show x + y + 2 ≤ x + y + 3; omega) d 0 1 (ft G t) 0 sh hr.1 hr.2.1).1 (by decide)
    rw [if_neg hz] at this
    have t2 : uC G st d 0 (ft G t) 0 ≤ 3 * (en (ft G t) - ft G t).toNat + (12 * 3 + 1) * dst d + 0 := this
    omega
  · have := (uf_bd (st := st) (lt := fun _ node => [97 + lb G node]) (em := [46]) (fo := id) (im := id) (b1 := fun node x => [40, 65 + lb G node] ++ 32 :: x ++ [41]) (b2 := fun node x y => [40, 65 + lb G node] ++ 32 :: x ++ 32 :: y ++ [41]) W E (fun l => l.length + 1) 4 0 (fun _ _ => by show 1 + 1 ≤ 4; omega) (by show 1 + 1 ≤ 4; omega) (fun x => by show x.length + 1 ≤ x.length + 1 + 4; omega) (fun _ => Nat.le_refl _) (fun _ x => by simp) (fun _ x y => by simp; omega) d 0 1 (ft G t) [] sh hr.1 hr.2.1).1 (by decide)
    rw [if_neg hz] at this
    have t2 : (uT G st d 0 (ft G t) []).length + 1 ≤ 4 * (en (ft G t) - ft G t).toNat + (12 * 4 + 0) * dst d + 0 := this
    omega
  · have := (uf_bd (st := st) (lt := fun s node => [(s, off G node)]) (em := []) (fo := id) (im := id) (b1 := fun _ x => x) (b2 := fun _ x y => x ++ y) W E List.length 1 0 (fun _ _ => Nat.le_refl _) (Nat.zero_le _) (fun x => by show x.length ≤ x.length + 1; omega) (fun _ => Nat.le_refl _) (fun _ x => by show x.length ≤ x.length + 1; omega) (fun _ x y => by rw [List.length_append]; omega) d 0 1 (ft G t) [] sh hr.1 hr.2.1).1 (by decide)
    rw [if_neg hz] at this
    have t2 : (uY G st d 0 (ft G t) []).length ≤ 1 * (en (ft G t) - ft G t).toNat + (12 * 1 + 0) * dst d + 0 := this
    omega
  · have := (uf_bd (st := st) (lt := fun _ _ => (0 : Nat)) (em := 0) (fo := id) (im := id) (b1 := fun _ x => x + 1) (b2 := fun _ x y => max x y + 1) W E id 1 0 (fun _ _ => Nat.zero_le _) (Nat.zero_le _) (fun x => by show x ≤ x + 1; omega) (fun _ => Nat.le_refl _) (fun _ _ => Nat.le_refl _) (fun _ x y => by show max x y + 1 ≤ x + y + 1; omega) d 0 1 (ft G t) 0 sh hr.1 hr.2.1).1 (by decide)
    rw [if_neg hz] at this
    have t2 : uD G st d 0 (ft G t) 0 ≤ 1 * (en (ft G t) - ft G t).toNat + (12 * 1 + 0) * dst d + 0 := this
    omega
  · have := (uf_bd (st := st) (lt := fun _ _ => (0 : Nat)) (em := 0) (fo := id) (im := id) (b1 := fun _ x => x + 1) (b2 := fun _ x y => x + y + 1) W E id 1 0 (fun _ _ => Nat.zero_le _) (Nat.zero_le _) (fun x => by show x ≤ x + 1; omega) (fun _ => Nat.le_refl _) (fun _ _ => Nat.le_refl _) (fun _ _ _ => Nat.le_refl _) d 0 1 (ft G t) 0 sh hr.1 hr.2.1).1 (by decide)
    rw [if_neg hz] at this
    have t2 : uB G st d 0 (ft G t) 0 ≤ 1 * (en (ft G t) - ft G t).toNat + (12 * 1 + 0) * dst d + 0 := this
    omega
/-- the way that is kept -/
def FndOK (h : Hp) (G : Gm) (o8 n : Int) (row : Int → Int) : Prop := ∃ (k : Nat) (t : Int) (d : Dv), h 59 0 = (k : Int) ∧ WayAt G (ouB o8) row n k t d ∧ XWay h G t d
def FdF (h h' : Hp) : Prop := Vol h h' ∧ ∀ c s, (c ≠ 0 ∨ s ≠ 17) → (c ≠ 21 ∨ 4 ≤ s) → c ≠ 36 → c ≠ 37 → (c < 55 ∨ 71 < c) → h' c s = h c s
theorem FdF.tr {a b c : Hp} (x : FdF a b) (y : FdF b c) : FdF a c := ⟨x.1.tr y.1, fun i s h1 h2 h3 h4 h5 => by rw [y.2 i s h1 h2 h3 h4 h5, x.2 i s h1 h2 h3 h4 h5]⟩
theorem CnF.fd (F : CnF h h') : FdF h h' := ⟨F.vol, fun c s h1 h2 h3 h4 h5 => F.1 c s h3 h4 h2 h1⟩
theorem FX.fd (F : FX h h') : FdF h h' := ⟨F.vol, fun c s h1 h2 h3 h4 h5 => F c s (by omega)⟩
theorem FU.fd (F : FU 59 h h') : FdF h h' := ⟨F.vol (Or.inl rfl), fun c s h1 h2 h3 h4 h5 => F c s (Or.inl (by omega)) (by omega) (Or.inl (by omega)) (by omega) (Or.inl (by omega)) (by omega) (by omega) (by omega) (by omega)⟩
theorem learns_ok (b : Int) : X_learns 0 b h = some (if i_and (h 0 17) b = 0 then 1 else 0, hput h 0 17 (i_or (h 0 17) b)) := by
  unfold X_learns X_learns_j14
  rw [if_pos (by decide), if_pos (by decide)]
  simp only
  by_cases hz : i_and (h 0 17) b = 0
  · rw [if_pos hz, if_pos (Or.inr rfl)]
  · rw [if_neg hz, if_pos (Or.inl rfl)]
def fwL (k r : Int) (f : Hp) : Option (Int × Hp) := if r = 0 then if kK (f 0 11) = 8 then if f (f 0 11) 0 = k then some (0, f) else X_findWay_j69 0 k f else none else X_findWay_j69 0 k f
def fw2 (f : Hp) : Option (Int × Hp) := if kK (f 0 11) = 8 then ob (Wy_unfold (f 0 11) (f 0 15) f) (fun r101 => some (0, r101)) else none
def fw1 (k : Int) (f : Hp) : Option (Int × Hp) := if kK (f 0 10) = 9 then ob (WF_find (f 0 10) (f 0 8) k (f 0 11) f) (fun r90 => fw2 r90) else none
theorem fw_eq (k : Int) (h : Hp) : X_findWay_j69 0 k h = if kK 0 = 10 then if kK (h 0 11) = 8 then fw1 k (hput h (h 0 11) 0 k) else none else none := rfl
theorem j69_ok (B : BX h P G o8 n row) (C : CntOK h P G o8 n row) {k : Nat} {t : Int} {d : Dv} (hk : k ≤ 1000000000000000) (A : WayAt G (ouB o8) row n k t d) : ∃ h', X_findWay_j69 0 k h = some (0, h') ∧ FdF h h' ∧ h' 0 17 = h 0 17 ∧ h' 21 = h 21 ∧ h' 36 = h 36 ∧ h' 37 = h 37 ∧ h' 59 0 = (k : Int) ∧ XWay h' G t d := by
  have S := bx_sx B
  have I := bx_G B
  have nn := bx_n B
  obtain ⟨k', Pk, N, hk', hkw, t0, t1, hg, hi, db, ds, sh⟩ := way_in I nn.2.1 nn.2.2 A
  have hs := (goB_spec hg).1
  obtain ⟨at', -, sl, s0⟩ := stW_At I t0 t1 sh
  generalize hf : hput h 59 0 (k : Int) = f
  have fo : ∀ c s, (c ≠ 59 ∨ s ≠ 0) → f c s = h c s := by
    intro c s z
    rw [← hf]
    rcases z with z | z
    · exact hput_ne1 z
    · exact hput_ne2 z
  have Ff : FdF h f := by
    refine ⟨fun c s hv => fo c s ?_, fun c s h1 h2 h3 h4 h5 => fo c s (Or.inl (by omega))⟩
    by_cases e : c = 59
    · by_cases e' : s = 0
      · rw [e, e'] at hv
        exact absurd hv (by decide)
      · exact Or.inr e'
    · exact Or.inl e
  have Bf := BX_vol Ff.1 B
  have hP := bx_P B
  have Cf : CntOK f P G o8 n row := by
    unfold CntOK at C ⊢
    rw [fo 21 0 (by decide), fo 21 1 (by decide), fo 21 2 (by decide), fo 21 3 (by decide)]
    exact ⟨C.1, C.2.1, C.2.2.1, C.2.2.2.1, Tab_eq C.2.2.2.2 (funext (fun s => fo _ s (Or.inl (by decide)))) (funext (fun s => fo _ s (Or.inl (by decide)))) (funext (fun s => fo _ s (Or.inl (by omega))))⟩
  obtain ⟨g, xg, Fg, Tg⟩ := WF_find_ok Bf Cf hk A
  have Bg := BX_vol Fg.vol Bf
  have Sg := bx_sx Bg
  have Eg : UEnv g 59 P G o8 n row (stW G t d) := ⟨Or.inl rfl, ⟨sx_at Sg (by decide), sx_at Sg (by decide), sx_at Sg (by decide), sx_at Sg (by decide), sx_at Sg (by decide)⟩, ⟨sx_at Sg (by decide), sx_at Sg (by decide), sx_at Sg (by decide), sx_at Sg (by decide), sx_at Sg (by decide), sx_at Sg (by decide), sx_at Sg (by decide)⟩, Bg, ⟨Tg.1, fun s a b => ⟨(Tg.2.1 s a b).1, (Tg.2.1 s a b).2.1, (Tg.2.1 s a b).2.2.1⟩, Tg.2.2⟩, by omega⟩
  have bd := way_bd (st := stW G t d) I t0 t1 hs sh (by omega)
  obtain ⟨g2, x2, F2, U2⟩ := Wy_unfold_ok Eg (fun s a b => (Tg.2.1 s a b).2.2.2) t0 t1 hs (by omega) (by rw [s0]) at' bd.1 bd.2.1
  have E2 := UEnv_fu F2 Eg
  have l21 : ∀ c s, c < 55 → g2 c s = h c s := fun c s hc => by rw [F2 c s (Or.inl (by omega)) (by omega) (Or.inl (by omega)) (by omega) (Or.inl (by omega)) (by omega) (by omega) (by omega) (by omega), Fg c s (Or.inl hc), fo c s (Or.inl (by omega))]
  refine ⟨g2, ?_, (Ff.tr Fg.fd).tr F2.fd, l21 0 17 (by decide), funext (fun s => l21 21 s (by decide)), funext (fun s => l21 36 s (by decide)), funext (fun s => l21 37 s (by decide)), ?_, E2.2.2.2.2.1, U2.1, U2.2.1, U2.2.2.1, U2.2.2.2.2⟩
  · rw [fw_eq, if_pos (by decide), sx_at S (show (0, 11, 59) ∈ shX by decide), if_pos kK_59, hf]
    unfold fw1
    rw [sx_at (bx_sx Bf) (show (0, 10, 55) ∈ shX by decide), if_pos kK_55, sx_at (bx_sx Bf) (show (0, 8, 21) ∈ shX by decide), sx_at (bx_sx Bf) (show (0, 11, 59) ∈ shX by decide), xg, ob_some]
    unfold fw2
    rw [sx_at Sg (show (0, 11, 59) ∈ shX by decide), if_pos kK_59, bx_15 Bg, x2, ob_some]
  · rw [F2 59 0 (Or.inr ⟨by decide, by decide, by decide⟩) (by decide) (Or.inl (by decide)) (by decide) (Or.inl (by decide)) (by decide) (by decide) (by decide) (by decide), Fg 59 0 (Or.inr (Or.inr (Or.inl ⟨rfl, by decide⟩))), ← hf, hput_eq]
/-- what a question about a way finds -/
theorem X_findWay_ok (B : BX h P G o8 n row) (k0 : 0 ≤ h 0 17) (k1 : h 0 17 < 512) (hC : bit (h 0 17) 6 = 1 → CntOK h P G o8 n row) (hF : bit (h 0 17) 8 = 1 → FndOK h G o8 n row) (k : Int) :
    (k < 0 ∧ X_findWay 0 k h = some (-2, h)) ∨ (0 ≤ k ∧ 1000000000000000 < capN (stN G (ouB o8) row n) ∧ ∃ h', X_findWay 0 k h = some (-3, h') ∧ CnF h h' ∧ CntOK h' P G o8 n row) ∨ (0 ≤ k ∧ capN (stN G (ouB o8) row n) ≤ 1000000000000000 ∧ capN (stN G (ouB o8) row n) ≤ k ∧ ∃ h', X_findWay 0 k h = some (-1, h') ∧ CnF h h' ∧ CntOK h' P G o8 n row) ∨ (0 ≤ k ∧ capN (stN G (ouB o8) row n) ≤ 1000000000000000 ∧ k < capN (stN G (ouB o8) row n) ∧ ∃ t d, WayAt G (ouB o8) row n k.toNat t d ∧ ∃ h', X_findWay 0 k h = some (0, h') ∧ FdF h h' ∧ h' 0 17 = i_or (i_or (h 0 17) 64) 256 ∧ CntOK h' P G o8 n row ∧ h' 59 0 = k ∧ XWay h' G t d) := by
  have W := bx_W B
  have nn := bx_n B
  by_cases kk : 0 ≤ k
  · obtain ⟨g, x, Fg, Cg⟩ := X_knowCounts_ok B k0 k1 hC
    have Bg := BX_vol Fg.vol B
    have Sg := bx_sx Bg
    have st := Ch_atStart_ok (Ev_cnt Bg Cg) Cg.2.2.2.2 nn.2.1 (Int.le_refl _)
    have b64 : bit 64 8 = 0 := by decide
    have r17 : 0 ≤ g 0 17 ∧ g 0 17 < 512 ∧ bit (g 0 17) 8 = bit (h 0 17) 8 := by
      have e64 : i_shl 1 6 = 64 := by decide
      have o := or1_in (x := h 0 17) (t := 6) (n := 9) k0 (by decide) (by decide) (by rw [show (((2 ^ (9 : Int).toNat : Nat)) : Int) = 512 by decide]; exact k1) (by decide) (by decide)
      rw [e64, show (((2 ^ (9 : Int).toNat : Nat)) : Int) = 512 by decide] at o
      have b := bit_or1 (x := h 0 17) (t := 6) (u := 8) k0 (by omega) (by decide) (by decide) (by decide) (by decide)
      rw [e64, if_neg (by decide)] at b
      rw [Fg.2]
      exact ⟨o.1, o.2, b⟩
    have go : X_findWay 0 k h = if capN (stN G (ouB o8) row n) ≤ 1000000000000000 then if k < capN (stN G (ouB o8) row n) then ob (X_learns 0 256 g) (fun r51 => fwL k r51.1 r51.2) else some ((-1), g) else some ((-3), g) := by
      unfold X_findWay
      rw [if_pos kk, if_pos (by decide), x, ob_some, sx_at Sg (show (0, 2, 5) ∈ shX by decide), if_pos (by decide), sx_at Sg (show (0, 8, 21) ∈ shX by decide), if_pos (by decide), (bx_n Bg).1, st, ob_some]
      rfl
    rw [go]
    by_cases h3 : capN (stN G (ouB o8) row n) ≤ 1000000000000000
    · rw [if_pos h3]
      by_cases h1 : k < capN (stN G (ouB o8) row n)
      · rw [if_pos h1, learns_ok, ob_some]
        refine Or.inr (Or.inr (Or.inr ⟨kk, h3, h1, ?_⟩))
        have hk : k.toNat < stN G (ouB o8) row n := (cap_lt (k := k.toNat) (w := stN G (ouB o8) row n) (by omega)).mp (by omega)
        generalize hm : hput g 0 17 (i_or (g 0 17) 256) = m
        have mo : ∀ c s, (c ≠ 0 ∨ s ≠ 17) → m c s = g c s := by
          intro c s z
          rw [← hm]
          rcases z with z | z
          · exact hput_ne1 z
          · exact hput_ne2 z
        have Fm : FdF h m := Fg.fd.tr ⟨fun c s hv => mo c s (vol_17 hv), fun c s h1 h2 h3 h4 h5 => mo c s h1⟩
        have Bm := BX_vol Fm.1 B
        have hP := bx_P B
        have Cm : CntOK m P G o8 n row := by
          unfold CntOK at Cg ⊢
          rw [mo 21 0 (by decide), mo 21 1 (by decide), mo 21 2 (by decide), mo 21 3 (by decide)]
          exact ⟨Cg.1, Cg.2.1, Cg.2.2.1, Cg.2.2.2.1, Tab_eq Cg.2.2.2.2 (funext (fun s => mo _ s (Or.inl (by decide)))) (funext (fun s => mo _ s (Or.inl (by decide)))) (funext (fun s => mo _ s (Or.inl (by omega))))⟩
        have m17 : m 0 17 = i_or (i_or (h 0 17) 64) 256 := by rw [← hm, hput_eq, Fg.2]
        have fresh : ∃ t d, WayAt G (ouB o8) row n k.toNat t d ∧ ∃ h', X_findWay_j69 0 k m = some (0, h') ∧ FdF h h' ∧ h' 0 17 = i_or (i_or (h 0 17) 64) 256 ∧ CntOK h' P G o8 n row ∧ h' 59 0 = k ∧ XWay h' G t d := by
          obtain ⟨t, d, A⟩ := way_ex W nn.2.1 nn.2.2 hk
          obtain ⟨g2, x2, F2, q17, q21, q36, q37, q59, X2⟩ := j69_ok Bm Cm (k := k.toNat) (by omega) A
          rw [show ((k.toNat : Nat) : Int) = k by omega] at x2 q59
          refine ⟨t, d, A, g2, x2, Fm.tr F2, by rw [q17, m17], ?_, q59, X2⟩
          unfold CntOK at Cm ⊢
          rw [q21]
          exact ⟨Cm.1, Cm.2.1, Cm.2.2.1, Cm.2.2.2.1, Tab_eq Cm.2.2.2.2 q36 q37 (funext (fun s => F2.2 _ s (Or.inl (by omega)) (Or.inl (by omega)) (by omega) (by omega) (by omega)))⟩
        have b8 := and_pow (x := g 0 17) (t := 8) r17.1 (by omega) (by decide) (by decide)
        rw [show (((2 ^ (8 : Int).toNat : Nat)) : Int) = 256 by decide] at b8
        by_cases hz : i_and (g 0 17) 256 = 0
        · rw [if_pos hz]
          show ∃ t d, WayAt G (ouB o8) row n k.toNat t d ∧ ∃ h', fwL k 1 m = some (0, h') ∧ _
          unfold fwL
          rw [if_neg (by decide)]
          exact fresh
        · rw [if_neg hz]
          show ∃ t d, WayAt G (ouB o8) row n k.toNat t d ∧ ∃ h', fwL k 0 m = some (0, h') ∧ _
          unfold fwL
          rw [if_pos rfl, sx_at (bx_sx Bm) (show (0, 11, 59) ∈ shX by decide), if_pos kK_59]
          by_cases he : m 59 0 = k
          · rw [if_pos he]
            have bb : bit (h 0 17) 8 = 1 := by
              rw [← r17.2.2]
              rcases bit_z (x := g 0 17) (t := 8) r17.1 (by omega) (by decide) (by decide) with z | z
              · exact absurd (b8.mpr z) hz
              · exact z
            obtain ⟨κ, t, d, e59, A, X⟩ := hF bb
            have em : ∀ c s, 55 ≤ c → m c s = h c s := fun c s hc => by rw [mo c s (Or.inl (by omega)), Fg.1 c s (by omega) (by omega) (Or.inl (by omega)) (Or.inl (by omega))]
            have ek : k.toNat = κ := by
              rw [em 59 0 (by decide), e59] at he
              omega
            refine ⟨t, d, by rw [ek]; exact A, m, rfl, Fm, m17, Cm, he, ?_⟩
            unfold XWay XTb TxU LtU ByT NuU HdU at X ⊢
            simp only [em 59 _ (by decide), em (59 + 1) _ (by decide), em (59 + 2) _ (by decide), em (59 + 3) _ (by decide), em (59 + 4) _ (by decide), em (59 + 5) _ (by decide), em (59 + 6) _ (by decide), em (59 + 7) _ (by decide), em (59 + 8) _ (by decide), em (59 + 9) _ (by decide), em (59 + 10) _ (by decide), em (59 + 11) _ (by decide)]
            exact X
          · rw [if_neg he]
            exact fresh
      · rw [if_neg h1]
        exact Or.inr (Or.inr (Or.inl ⟨kk, h3, by omega, g, rfl, Fg, Cg⟩))
    · rw [if_neg h3]
      exact Or.inr (Or.inl ⟨kk, by omega, g, rfl, Fg, Cg⟩)
  · left
    unfold X_findWay
    rw [if_neg kk]
    exact ⟨by omega, rfl⟩
end
