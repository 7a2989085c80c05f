/-! grown: both -/
section
variable {h h' g g' : Hp} {P o8 n : Int} {G : Gm} {row : Int → Int}
theorem branchesOf_ok (B : BM g G o8 n row) {t : Int} (t0 : 0 ≤ t) (t1 : t < nT G) : M_branchesOf 121 t g = some ((cntB G (ft G t) (ft G (t + 1)) : Nat) : Int) := by
  have W := bm_W B
  have nt := wf_nt W
  have nn := wf_nn W
  have fa := ft_in W t0 (by omega)
  have fb := ft_in W (t := t + 1) (by omega) (by omega)
  have sw := wf_step W t0 t1
  have e0 : g 122 t = ft G t := (bm_X B).2.2.2.1 t t0 (by omega)
  have e1 : g 122 (t + 1) = ft G (t + 1) := (bm_X B).2.2.2.1 (t + 1) (by omega) (by omega)
  have q4 : g 121 4 = 122 := ms_at (bm_S B) (by decide)
  have q5 : g 121 5 = 123 := ms_at (bm_S B) (by decide)
  have ew : w32 (t + 1) = t + 1 := by unfold w32; omega
  have := acc2 (body := fun q => M_branchesOf_L9 121 t g q.1 q.2) (f := fun n => if kd G n = 0 then 1 else 0) (lo := ft G t) (hi := ft G (t + 1) - 1) (A := 0) (b := 1) (by omega) (by omega) (fun x => by split <;> omega) (by
    intro acc x x0 x1 ha
    have gx := (bm_X B).2.2.2.2.1 x (by omega) (by omega)
    show M_branchesOf_L9 121 t g acc x = _
    unfold M_branchesOf_L9 M_branchesOf_j36
    rw [if_pos kK_121, q4, ew, if_pos ⟨kK_122, by omega, by rw [kL_122]; omega⟩, e1, if_neg (by omega), q5, if_pos ⟨kK_123, by omega, by rw [kL_123]; omega⟩, gx.1, show w32 (x + 1) = x + 1 by unfold w32; omega]
    by_cases k0 : kd G x = 0
    · rw [if_pos k0, if_pos k0, show w32 ((acc : Int) + 1) = ((acc + 1 : Nat) : Int) by unfold w32; omega]
    · rw [if_neg k0, if_neg k0, show w32 ((acc : Int) + 0) = ((acc + 0 : Nat) : Int) by unfold w32; omega]) (by
    intro acc
    show M_branchesOf_L9 121 t g acc (ft G (t + 1) - 1 + 1) = _
    unfold M_branchesOf_L9
    rw [if_pos kK_121, q4, ew, if_pos ⟨kK_122, by omega, by rw [kL_122]; omega⟩, e1, if_pos (by omega)])
  rw [show (((0 : Nat)) : Int) = 0 from rfl, Nat.zero_add] at this
  unfold M_branchesOf
  rw [if_pos kK_121, q4, if_pos ⟨kK_122, t0, by rw [kL_122]; omega⟩, e0, this, ob_some]
  rfl
theorem cntB_le (W : WF G) {t : Int} (t0 : 0 ≤ t) (t1 : t < nT G) : cntB G (ft G t) (ft G (t + 1)) ≤ 12 := by
  have sw := wf_step W t0 t1
  unfold cntB
  have := sN_bd (f := fun n => if kd G n = 0 then 1 else 0) (lo := ft G t) (b := 1) (fun x => by split <;> omega) (ft G (t + 1) - 1 + 1 - ft G t).toNat
  show sN _ _ (ft G (t + 1) - 1 + 1 - ft G t).toNat ≤ 12
  omega
theorem grown_ok (A : PreW h g P G o8 n row) (EX : EnX G) {d : Nat} (hd : 1954 ≤ d) (hd' : d ≤ 5000) (k what : Int) : ∃ v h' g', X_grown 0 k what h = some (v, h') ∧ M_grown d 121 k what g = some (v, g') ∧ XA h h' P G o8 n row ∧ LyF g g' := by
  obtain ⟨v, h', g', x, y, X, L, w, B', Bg', S'⟩ := found_both A (d := d - 1) (by omega) k
  have I := bx_G B'
  have W := I.1
  rw [xq_grown_eq, mq_grown_eq, if_pos (by decide), if_pos kK_121, x, y, ob_some, ob_some]
  show ∃ v' h'' g'', xq_grown what v h' = _ ∧ mq_grown d what v g' = _ ∧ _
  unfold xq_grown mq_grown
  rcases w with w | ⟨w, t, dv, ⟨t0, t1, hs, gu⟩, sh, db, X', M'⟩
  · rw [if_neg (by omega), if_neg (by omega)]
    exact ⟨v, h', g', rfl, rfl, X, L⟩
  · subst w
    have S := bx_sx B'
    obtain ⟨at', -, sl, s0⟩ := stW_At I t0 t1 sh
    have hr := root_in W t0 t1
    have bd := way_bd (st := stW G t dv) I t0 t1 hs sh (by omega)
    have uo : Uok G (stW G t dv) (stW G t dv).length (some (dv, 0, 1, ft G t, [])) := ⟨Or.inr rfl, at', ⟨Int.le_refl _, by omega⟩, ⟨hr.1, hr.2.1⟩, ⟨by rw [s0, hr.2.2], fun z => by rw [hr.2.2]; exact z⟩, by show sp G (ft G (sEnt (stW G t dv) 0).1) = 0; rw [s0]; exact hs⟩
    have uc : uC G (stW G t dv) dv 0 (ft G t) 0 ≤ 1950 := by
      obtain ⟨en, E⟩ := I.2.2
      have e2 := E.2 t t0 t1
      have sw := (wf_step W t0 t1).2
      have := (uf_bd (st := stW G t dv) (lt := fun _ _ => (1 : Nat)) (em := 1) (fo := fun x => x + 1) (im := fun x => x + 1) (b1 := fun _ x => x + 2) (b2 := fun _ x y => x + y + 2) W E id 3 1 (fun _ _ => by show 1 ≤ 3; omega) (by show 1 ≤ 3; omega) (fun x => by show x + 1 ≤ x + 3; omega) (fun _ => Nat.le_refl _) (fun _ x => by show x + 2 ≤ x + 3; omega) (fun _ x y => by show x + y + 2 ≤ x + y + 3; omega) dv 0 1 (ft G t) 0 sh hr.1 hr.2.1).1 (by decide)
      rw [if_neg (by omega)] at this
      have t2 : uC G (stW G t dv) dv 0 (ft G t) 0 ≤ 3 * (en (ft G t) - ft G t).toNat + (12 * 3 + 1) * dst dv + 0 := this
      omega
    have dp := (deep_spec Bg' S' M'.1 (by omega) (Int.le_refl _) (d - 1) (by omega) dv 0 1 (ft G t) [] uo).1 rfl (by show uC G (stW G t dv) dv 0 (ft G t) 0 ≤ d - 1; omega)
    rw [show off G (ft G t) = 0 by unfold off; rw [hr.2.2]; omega] at dp
    have dp' : M_deepAbove (d - 1) 121 0 0 g' = some ((uD G (stW G t dv) dv 0 (ft G t) 0 : Nat) : Int) := dp
    have lp := acc2 (body := fun q => M_grown_L45 d 121 g' q.1 q.2) (f := fun s => cntB G (ft G (sEnt (stW G t dv) s).1) (ft G ((sEnt (stW G t dv) s).1 + 1)) * (if 0 ≤ s ∧ s < ((stW G t dv).length : Int) then 1 else 0)) (lo := 0) (hi := ((stW G t dv).length : Int) - 1) (A := 0) (b := 12) (by omega) (by omega) (fun s => by
      by_cases hb : 0 ≤ s ∧ s < ((stW G t dv).length : Int)
      · have tt := stW_tr I t0 t1 sh hb.1 hb.2
        have := cntB_le W tt.1 tt.2
        rw [if_pos hb]; omega
      · rw [if_neg hb]; omega) (by
      intro acc s a b ha
      have tt := stW_tr I t0 t1 sh a (show s < ((stW G t dv).length : Int) by omega)
      have cb := cntB_le W tt.1 tt.2
      show M_grown_L45 d 121 g' acc s = _
      unfold M_grown_L45
      rw [if_pos kK_121, M'.1.1, if_neg (by omega), ss_at S' (show ((49 : Int), (148 : Int)) ∈ ssL by decide), if_pos ⟨kK_148, a, by rw [kL_148]; omega⟩, (M'.1.2 s a (by omega)).1, branchesOf_ok Bg' tt.1 tt.2, ob_some, show w32 (s + 1) = s + 1 by unfold w32; omega, if_pos (show 0 ≤ s ∧ s < ((stW G t dv).length : Int) by omega), Nat.mul_one, show w32 ((acc : Int) + ((cntB G (ft G (sEnt (stW G t dv) s).1) (ft G ((sEnt (stW G t dv) s).1 + 1)) : Nat) : Int)) = ((acc + cntB G (ft G (sEnt (stW G t dv) s).1) (ft G ((sEnt (stW G t dv) s).1 + 1)) : Nat) : Int) by unfold w32; omega]) (by
      intro acc
      show M_grown_L45 d 121 g' acc (((stW G t dv).length : Int) - 1 + 1) = _
      unfold M_grown_L45
      rw [if_pos kK_121, M'.1.1, if_pos (by omega)])
    have es : sI (fun s => cntB G (ft G (sEnt (stW G t dv) s).1) (ft G ((sEnt (stW G t dv) s).1 + 1)) * (if 0 ≤ s ∧ s < ((stW G t dv).length : Int) then 1 else 0)) 0 (((stW G t dv).length : Int) - 1) = uB G (stW G t dv) dv 0 (ft G t) 0 := by
      rw [way_B I EX t0 t1 hs sh gu]
      exact sI_congr (fun s a b => by
        show _ * (if 0 ≤ s ∧ s < ((stW G t dv).length : Int) then 1 else 0) = _
        rw [if_pos (by omega), Nat.mul_one])
    rw [es, Nat.zero_add, show (((0 : Nat)) : Int) = 0 from rfl] at lp
    rw [if_pos (Int.le_refl 0), sx_at S (show (0, 11, 59) ∈ shX by decide), if_pos kK_59, if_pos rfl, M_in_ok, ob_some, X'.2.2.2.1.1, X'.2.2.2.1.2.1, dp', ob_some, lp, ob_some]
    by_cases w0 : what = 0
    · rw [if_pos w0, if_pos (show 0 ≤ what ∧ what ≤ 1 by omega), if_neg (show ¬ (1 : Int) = 0 by decide), if_pos w0]
      exact ⟨_, h', g', rfl, rfl, X, L⟩
    rw [if_neg w0]
    by_cases w1 : what = 1
    · rw [if_pos w1, if_pos (show 0 ≤ what ∧ what ≤ 1 by omega), if_neg (show ¬ (1 : Int) = 0 by decide), if_neg w0]
      exact ⟨_, h', g', rfl, rfl, X, L⟩
    rw [if_neg w1, if_neg (show ¬ (0 ≤ what ∧ what ≤ 1) by omega), if_pos rfl]
    exact ⟨_, h', g', rfl, rfl, X, L⟩
end
