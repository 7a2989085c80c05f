section MW5
variable {h : Hp} {G : Gm} {ou : Int → Bool} {row : Int → Int}
theorem Memo_put (Rp : RepM h G ou row) (W : WF G) (hM : Memo h G ou row) {half node i j p q : Int} (hi : itm G half node i j p q) : Memo (hput h 144 (mkey h half node i j p q) (capN (wW G ou row half node i j p q))) G ou row := by
  intro half' node' i' j' p' q' hi'
  have D : D144 h (hput h 144 (mkey h half node i j p q) (capN (wW G ou row half node i j p q))) := fun a b hb => hput_ne1 hb
  rw [mkey_144 D]
  by_cases he : mkey h half' node' i' j' p' q' = mkey h half node i j p q
  · right
    obtain ⟨rfl, rfl, rfl, rfl, rfl, rfl⟩ := mkey_inj Rp W hi' hi he
    rw [hput_eq]
  · rw [hput_ne2 he]
    exact hM half' node' i' j' p' q' hi'
theorem waysOf_spec (W : WF G) : ∀ d : Nat, SpecW (M_waysOf_G d 0) G ou row ((d : Int) - 4) := by
  intro d
  induction d using Nat.strongRecOn with
  | _ d ih =>
  intro half node i j p q h hi hfr Rp hM
  have h4 := fr_pos W hi
  obtain ⟨e, rfl⟩ : ∃ e : Nat, d = e + 1 + 1 + 1 + 1 := ⟨d - 4, by omega⟩
  have n0 := hi.2.1
  have n1 := hi.2.2.1
  have hn := wf_nn W
  have hh := hi.1
  have f41 : h 121 41 = 144 := ms_at Rp.1 (by decide)
  have f5 : h 121 5 = 123 := ms_at Rp.1 (by decide)
  have r := (Rp.2.2.2.2.1 node n0 n1).1
  have hkey := mkey_in Rp W hi
  show Got (if 2 ≤ e + 1 + 1 + 1 then M_waysOf_b (M_waysOf_G (e + 1 + 1 + 1)) (e + 1 + 1 + 1) 121 half node i j p q h else none) h G ou row _
  rw [if_pos (by omega)]
  unfold M_waysOf_b
  rw [if_pos kK_121, M_hasRoom_ok Rp W hi, ob_some]
  have hW := wW_eq (ou := ou) (row := row) W hi
  by_cases hr : cov i j p q < nd G node
  · rw [if_pos hr, if_pos rfl]
    unfold wStep at hW
    rw [if_pos hr] at hW
    rw [hW]
    exact Got.same hM 0
  rw [if_neg hr, if_neg (by decide), M_spanOf_ok Rp hi, ob_some, M_keyOf_ok Rp W hi, ob_some, f41, if_pos (show kK 144 = 22 ∧ (0 : Int) ≤ mkey h half node i j p q ∧ mkey h half node i j p q < kL 144 from ⟨kK_144, hkey.1, by rw [kL_144]; exact hkey.2⟩)]
  -- what is kept, then told
  have told : ∀ h1 : Hp, RepM h1 G ou row → M_waysOf_j97 (M_waysOf_G (e + 1 + 1 + 1)) (e + 1 + 1 + 1) 121 (mkey h half node i j p q) h1 = some (h1 144 (mkey h half node i j p q), h1) := by
    intro h1 R1
    have g41 : h1 121 41 = 144 := ms_at R1.1 (by decide)
    unfold M_waysOf_j97
    rw [if_pos kK_121, g41, if_pos ⟨kK_144, hkey.1, by rw [kL_144]; exact hkey.2⟩]
  have kept : ∀ h1 : Hp, D144 h h1 → Memo h1 G ou row → Got (M_waysOf_j96 (M_waysOf_G (e + 1 + 1 + 1)) (e + 1 + 1 + 1) 121 (mkey h half node i j p q) (capN (wW G ou row half node i j p q)) (mkey h half node i j p q) 144 h1) h G ou row (wW G ou row half node i j p q) := by
    intro h1 d1 m1
    have R1 := RepM_144 Rp d1
    have d2 : D144 h1 (hput h1 144 (mkey h half node i j p q) (capN (wW G ou row half node i j p q))) := fun a b hb => hput_ne1 hb
    unfold M_waysOf_j96
    rw [if_pos (show kK 144 = 22 ∧ (0 : Int) ≤ mkey h half node i j p q ∧ mkey h half node i j p q < kL 144 from ⟨kK_144, hkey.1, by rw [kL_144]; exact hkey.2⟩)]
    show Got (M_waysOf_j97 _ _ 121 _ (hput h1 144 (mkey h half node i j p q) (capN (wW G ou row half node i j p q)))) h G ou row _
    rw [told _ (RepM_144 R1 d2), hput_eq]
    refine ⟨_, rfl, d1.tr d2, ?_⟩
    have := Memo_put R1 W m1 hi
    rw [mkey_144 d1] at this
    exact this
  by_cases hu : h 144 (mkey h half node i j p q) = -9
  · rw [if_pos hu]
    have below : ¬ (half = 1 ∧ kd G node = 0) → Got (M_waysOf_j84 (M_waysOf_G (e + 1 + 1 + 1)) (e + 1 + 1 + 1) 121 node i j p q (mkey h half node i j p q) (mkey h half node i j p q) 144 h) h G ou row (wW G ou row half node i j p q) := by
      intro hnb
      obtain ⟨h1, x1, d1, m1⟩ := below_ok (e := e) (B := (e : Int) - 4) W (by omega)
        (by have := ih (e + 1 + 1) (by omega); rw [show (((e + 1 + 1 : Nat) : Int) - 4) = (e : Int) - 4 + 2 by omega] at this; exact this)
        (by have := ih (e + 1) (by omega); rw [show (((e + 1 : Nat) : Int) - 4) = (e : Int) - 4 + 1 by omega] at this; exact this)
        (ih e (by omega)) hi (by omega) Rp hM
      unfold M_waysOf_j84
      rw [if_pos kK_121, x1, ob_some]
      have e1 : wBelow G ou row (wW G ou row) node i j p q = wW G ou row half node i j p q := by
        rw [hW]; unfold wStep; rw [if_neg hr, if_neg hnb]
      rw [e1]
      exact kept h1 d1 m1
    by_cases h1 : half = 1
    · subst h1
      rw [if_pos rfl, f5, r, if_pos ⟨kK_123, n0, by rw [kL_123]; omega⟩]
      by_cases hk : kd G node = 0
      · rw [if_pos hk]
        obtain ⟨h1, x1, d1, m1⟩ := above_ok (e := e + 1) (B := (e : Int) - 3) W (by omega)
          (by have := ih (e + 1 + 1) (by omega); rw [show (((e + 1 + 1 : Nat) : Int) - 4) = (e : Int) - 3 + 1 by omega] at this; exact this)
          (by have := ih (e + 1) (by omega); rw [show (((e + 1 : Nat) : Int) - 4) = (e : Int) - 3 by omega] at this; exact this)
          hi hk (by omega) Rp hM
        rw [x1, ob_some]
        have e1 : wAbove G ou (wW G ou row) node i j p q = wW G ou row 1 node i j p q := by
          rw [hW]; unfold wStep; rw [if_neg hr, if_pos ⟨rfl, hk⟩]
        rw [e1]
        exact kept h1 d1 m1
      · rw [if_neg hk]
        exact below (fun z => hk z.2)
    · rw [if_neg h1]
      exact below (fun z => h1 z.1)
  · rw [if_neg hu, told h Rp]
    rcases hM half node i j p q hi with z | z
    · exact absurd z hu
    · rw [z]; exact Got.same hM _
/-- the search itself, where all frames are there -/
theorem M_waysOf_ok (W : WF G) {d : Nat} {half node i j p q : Int} (hi : itm G half node i j p q) (hd : fr G half node i j p q + 4 ≤ d) (Rp : RepM h G ou row) (hM : Memo h G ou row) : Got (M_waysOf d 121 half node i j p q h) h G ou row (wW G ou row half node i j p q) :=
  waysOf_spec W d half node i j p q h hi (by omega) Rp hM
theorem fr_max (W : WF G) {half node i j p q : Int} (hi : itm G half node i j p q) : fr G half node i j p q ≤ 1944 := by
  have a := (cov_in hi).2
  have b := turn_in (G := G) node
  have c := rel_in W hi.2.1 hi.2.2.1
  unfold fr
  split <;> omega
end MW5
