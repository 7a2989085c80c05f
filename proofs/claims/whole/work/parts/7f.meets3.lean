/-! the reference: meets -/
def mtC (R : Nat → List Int → Hp → Option (Hp)) (d : Nat) (l1 l2 l3 l4 l5 l6 : Int) (g : Hp) : Option (Hp) :=
  if l1 = 1 then
    if kK (g 121 5) = 21 ∧ (0 : Int) ≤ l2 ∧ l2 < kL (g 121 5) then
    if g (g 121 5) l2 = 0 then
      ob (R 1 [121, l2, l3, l4, l5, l6] g) (fun r79 =>
        some r79)
    else
      M_meets_j85 R d 121 l2 l3 l4 l5 l6 g
    else none
  else
    M_meets_j85 R d 121 l2 l3 l4 l5 l6 g
def mtB (R : Nat → List Int → Hp → Option (Hp)) (d : Nat) (l1 l2 l3 l4 l5 l6 w : Int) (f : Hp) : Option (Hp) :=
  if w = 0 then
    some f
  else
    ob (M_spanOf 121 l3 l4 l5 l6 f) (fun r29 =>
      ob (M_keyOf l1 l2 r29) (fun r32 =>
        if kK (f 121 44) = 23 ∧ (0 : Int) ≤ r32 ∧ r32 < kL (f 121 44) then
        if f (f 121 44) r32 = 0 then
          mtC R d l1 l2 l3 l4 l5 l6 (hput f (f 121 44) r32 1)
        else
          some f
        else none))
theorem meets_b_eq (R : Nat → List Int → Hp → Option (Hp)) (d : Nat) (l1 l2 l3 l4 l5 l6 : Int) (h : Hp) : M_meets_b R d 121 l1 l2 l3 l4 l5 l6 h = if kK 121 = 11 then ob (M_waysOf d 121 l1 l2 l3 l4 l5 l6 h) (fun r => mtB R d l1 l2 l3 l4 l5 l6 r.1 r.2) else none := rfl
section
variable {h h' h0 h1 h2 : Hp} {G : Gm} {ou : Int → Bool} {row : Int → Int} {S : SV} {Bd : Int} {e : Nat}
theorem meets_spec (I : GIn G) (Q : AEq G ou (agS row) r64 8 S) : ∀ d : Nat, SpecM (M_meets_G d 0) G ou row S ((d : Int) - 6) := by
  have W := I.1
  intro d
  induction d using Nat.strongRecOn with
  | _ d ih =>
  intro half node i j p q h Bd hi hfr hg hBd Rp hM hT hU
  have h4 := fr_pos W hi
  obtain ⟨e, rfl⟩ : ∃ e : Nat, d = e + 1 + 1 := ⟨d - 2, by omega⟩
  have n0 := hi.2.1
  have n1 := hi.2.2.1
  have j8 := hi.2.2.2.2.2.1
  have nn := wf_nn W
  have he : 8 ≤ e := by omega
  show ∃ h', (if 1 ≤ e + 1 then M_meets_b (M_meets_G (e + 1)) (e + 1) 121 half node i j p q h else none) = _ ∧ _
  rw [if_pos (by omega), meets_b_eq]
  obtain ⟨h1, x1, D1, M1⟩ := M_waysOf_ok W (d := e + 1) hi (by omega) Rp hM
  obtain ⟨J1, e45⟩ := JM_144 (JM_rf hM hT hU) D1 M1
  have R1 := RepM_4 Rp J1.1
  have zz := S_z I Q hi j8 hg
  rw [if_pos kK_121, x1, ob_some]
  show ∃ h', mtB (M_meets_G (e + 1)) (e + 1) half node i j p q (capN (wW G ou row half node i j p q)) h1 = _ ∧ _
  unfold mtB
  by_cases hz : wW G ou row half node i j p q = 0
  · rw [if_pos (capN_0.mpr hz)]
    refine ⟨h1, rfl, J1, fun u u0 u1 => ?_⟩
    rw [e45, zz.mpr hz]
    exact ⟨Or.inl, fun z => z.elim id (fun w => absurd w (bu_0 u0 u1))⟩
  have hkey := mkey_in R1 W hi
  have yk : kK 147 = 23 ∧ (0 : Int) ≤ mkey h1 half node i j p q ∧ mkey h1 half node i j p q < kL 147 := ⟨by decide, hkey.1, by rw [show kL 147 = 43200 by decide]; exact hkey.2⟩
  have y5 : kK 123 = 21 ∧ (0 : Int) ≤ node ∧ node < kL 123 := ⟨kK_123, n0, by rw [kL_123]; omega⟩
  rw [if_neg (fun w => hz (capN_0.mp w)), M_spanOf_ok R1 hi, ob_some, M_keyOf_ok R1 W hi, ob_some, ms_at R1.1 (show ((44 : Int), (147 : Int)) ∈ msL by decide), if_pos yk]
  by_cases hm : h1 147 (mkey h1 half node i j p q) = 0
  · rw [if_pos hm]
    generalize hg1 : hput h1 147 (mkey h1 half node i j p q) 1 = g1
    unfold mtC
    have F1 : F4 h1 g1 := by
      rw [← hg1]
      exact fun a k _ _ _ _ h5 => hput_ne1 h5
    have Rg := RepM_4 R1 F1
    have Mg : Memo g1 G ou row := by
      intro half' node' i' j' p' q' hi'
      rw [mkey_4 F1, ← hg1, hput_ne1 (by decide)]
      exact J1.2.1 half' node' i' j' p' q' hi'
    have g45 : g1 121 45 = h1 121 45 := by rw [← hg1, hput_ne1 (by decide)]
    have gk : ∀ half' node' i' j' p' q', itm G half' node' i' j' p' q' → mu G half' node' i' j' p' q' ≠ mu G half node i j p q → g1 147 (mkey h1 half' node' i' j' p' q') = h1 147 (mkey h1 half' node' i' j' p' q') := by
      intro half' node' i' j' p' q' hi' hne
      rw [← hg1, hput_ne2]
      intro w
      obtain ⟨rfl, rfl, rfl, rfl, rfl, rfl⟩ := mkey_inj R1 W hi' hi w
      exact hne rfl
    have Tg : MetI g1 G S (mu G half node i j p q) := by
      intro half' node' i' j' p' q' hi' hlt
      rw [mkey_4 F1, gk _ _ _ _ _ _ hi' (by omega), g45]
      exact J1.2.2.1 half' node' i' j' p' q' hi' (by omega)
    have Ug : Uin g1 := by unfold Uin; rw [g45]; exact J1.2.2.2.2.1
    have fin : ∀ h2, JM g1 h2 G ou row S (mu G half node i j p q) → (∀ u, 0 ≤ u → u < 8 → (bit (h2 121 45) u = 1 ↔ bit (g1 121 45) u = 1 ∨ bu u (S half node i j p q))) → JM h h2 G ou row S Bd ∧ ∀ u, 0 ≤ u → u < 8 → (bit (h2 121 45) u = 1 ↔ bit (h 121 45) u = 1 ∨ bu u (S half node i j p q)) := by
      intro h2 J2 b2
      have F2 := F1.tr J2.1
      refine ⟨JM_tr J1 ⟨F2, J2.2.1, ?_, ?_, J2.2.2.2.2.1, fun u u0 u1 z => J2.2.2.2.2.2 u u0 u1 (by rw [g45]; exact z)⟩, fun u u0 u1 => by rw [b2 u u0 u1, g45, e45]⟩
      · intro half' node' i' j' p' q' hi' hlt
        by_cases hb : mu G half' node' i' j' p' q' < mu G half node i j p q
        · exact J2.2.2.1 half' node' i' j' p' q' hi' hb
        · have e1 := J2.2.2.2.1 half' node' i' j' p' q' hi' (by omega)
          rw [mkey_4 F1] at e1
          rw [mkey_4 F2, e1]
          by_cases hk : mkey h1 half' node' i' j' p' q' = mkey h1 half node i j p q
          · obtain ⟨rfl, rfl, rfl, rfl, rfl, rfl⟩ := mkey_inj R1 W hi' hi hk
            exact Or.inr (fun u u0 u1 w => (b2 u u0 u1).mpr (Or.inr w))
          · rw [← hg1, hput_ne2 hk]
            rcases J1.2.2.1 half' node' i' j' p' q' hi' hlt with z | z
            · exact Or.inl z
            · refine Or.inr (fun u u0 u1 w => (b2 u u0 u1).mpr (Or.inl ?_))
              rw [g45]
              exact z u u0 u1 w
      · intro half' node' i' j' p' q' hi' hle
        have e1 := J2.2.2.2.1 half' node' i' j' p' q' hi' (by omega)
        rw [mkey_4 F1] at e1
        rw [e1, gk _ _ _ _ _ _ hi' (by omega)]
    have below : ¬ (half = 1 ∧ kd G node = 0) → ∃ h', M_meets_j85 (M_meets_G (e + 1)) (e + 1) 121 node i j p q g1 = some h' ∧ JM h h' G ou row S Bd ∧ ∀ u, 0 ≤ u → u < 8 → (bit (h' 121 45) u = 1 ↔ bit (h 121 45) u = 1 ∨ bu u (S half node i j p q)) := by
      intro hnb
      obtain ⟨h2, x2, J2, b2⟩ := meetsBelow_ok (e := e) I Q he (fun e' he' => ih e' (by omega)) hi hnb (by omega) hg (Int.le_refl _) hz Rg Mg Tg Ug
      unfold M_meets_j85
      rw [if_pos kK_121, x2, ob_some]
      exact ⟨h2, rfl, fin h2 J2 b2⟩
    by_cases hh1 : half = 1
    · subst hh1
      rw [if_pos rfl, ms_at Rg.1 (show ((5 : Int), (123 : Int)) ∈ msL by decide), if_pos y5, (Rg.2.2.2.2.1 node n0 n1).1]
      by_cases hk : kd G node = 0
      · rw [if_pos hk]
        obtain ⟨h2, x2, J2, b2⟩ := meetsAbove_ok (e := e) I Q (by omega) (ih e (by omega)) hi hk (by omega) hg (Int.le_refl _) Rg Mg Tg Ug
        rw [x2, ob_some]
        exact ⟨h2, rfl, fin h2 J2 b2⟩
      · rw [if_neg hk]
        exact below (fun z => hk z.2)
    · rw [if_neg hh1]
      exact below (fun z => hh1 z.1)
  · rw [if_neg hm]
    refine ⟨h1, rfl, J1, fun u u0 u1 => ?_⟩
    rcases J1.2.2.1 half node i j p q hi hBd with z | z
    · exact absurd z hm
    · refine ⟨fun w => Or.inl (by rw [← e45]; exact w), fun w => w.elim (fun w => by rw [e45]; exact w) (fun w => z u u0 u1 w)⟩
end
