/-! the class: unfolding, its loop -/
section
variable {h h' g : Hp} {w P o8 n : Int} {G : Gm} {row : Int → Int} {st : St} {M : Int}
theorem unfold_turn (E : UEnv h w P G o8 n row st) (hM : M ≤ 48) (hMs : M ≤ (st.length : Int)) {txt : List Int} {ls : List (Int × Int)} {dm br : Nat} {u : Uk} {r : List Uk} (U : USt h w G st txt ls dm br (nC (u :: r)) ((u :: r).map (rawU G))) (ok : ∀ v ∈ u :: r, Uok G st M v) (hdm : nC (u :: r) ≤ dm) (hW : rW G st (u :: r) + ls.length ≤ 576) (hB : br < 90000) {x : Int} (x0 : 0 ≤ x) (x1 : x < 4096) :
    ∃ h', Wy_unfold_L45 w P x h = some (.inl (x + 1, h')) ∧ Turn h h' w G st M (u :: r) txt ls dm br := by
  have T := E.2.2.1
  have k0 := (WyO_k E.1).1
  obtain ⟨k6, -, -, -, -, -, k12⟩ := WyO_k2 E.1
  have st48 := E.2.2.2.2.2
  have rl := rW_len (u :: r) ok
  have l1 : (u :: r).length = r.length + 1 := rfl
  have hlm : (r.map (rawU G)).length = r.length := List.length_map _
  obtain ⟨u1, u2, u3, u4, u5⟩ := U
  have e14 : h w 14 = (r.length : Int) + 1 := by
    rw [u4.1]
    show (((r.map (rawU G)).length + 1 : Nat) : Int) = _
    rw [hlm]; omega
  have top : h (w + 12) (r.length : Int) = rawU G u := by
    have := u4.2.1
    rw [hlm] at this
    exact this
  have ex : w32 (x + 1) = x + 1 := by unfold w32; omega
  rw [L45_eq, if_neg (by omega), if_pos k0, e14, if_neg (by omega), show w32 ((r.length : Int) + 1 - 1) = r.length by unfold w32; omega]
  generalize hf : hput h w 14 (r.length : Int) = f
  have fo : ∀ a i, (a ≠ w ∨ i ≠ 14) → f a i = h a i := by
    intro a i z
    rw [← hf]
    rcases z with z | z
    · exact hput_ne1 z
    · exact hput_ne2 z
  have Ff : FU w h f := fun c s a1 a2 a3 a4 a5 a6 a7 a8 a9 => fo c s (a1.elim Or.inl (fun z => Or.inr (by omega)))
  have Ef := UEnv_fu Ff E
  have f14 : f w 14 = (r.length : Int) := by rw [← hf, hput_eq]
  have f13 : f w 13 = w + 12 := Ef.2.2.1.2.2.2.2.1
  have ftop : f (w + 12) (r.length : Int) = rawU G u := by rw [fo _ _ (Or.inl (by omega))]; exact top
  have Uf : ∀ dl, NuU h w dm br dl → USt f w G st txt ls dm br dl (r.map (rawU G)) := fun dl v3 =>
    ⟨TxU_eq (fo _ _ (Or.inl (by omega))) (fun i => fo _ _ (Or.inl (by omega))) u1, LtU_eq (fo _ _ (Or.inl (by omega))) (fun c i hc => fo _ _ (Or.inl (by omega))) u2, NuU_eq (fo _ _ (Or.inr (by decide))) (fo _ _ (Or.inr (by decide))) (fo _ _ (Or.inr (by decide))) v3, ⟨by rw [f14, hlm], StkU_eq _ (fun i _ => fo _ _ (Or.inl (by omega))) u4.2.2⟩, HdU_eq (fun i => fo _ _ (Or.inl (by omega))) u5⟩
  unfold ufP
  rw [f13, f14, if_pos ⟨k12.1, by omega, by rw [k12.2]; omega⟩, ftop]
  cases u with
  | none =>
    have d1 : nC (none :: r) = nC r + 1 := rfl
    rw [d1] at u3 hdm
    rw [if_pos (show rawU G none = -1 from rfl)]
    obtain ⟨g, x3, U3, F3⟩ := addT_ok Ef (Uf _ u3) (v := 41) (by decide) (by decide)
    unfold ufC Wy_unfold_j129
    rw [Ef.2.2.1.1, if_pos k6, x3, ob_some, ex]
    obtain ⟨v1, v2, v3, v4, v5⟩ := U3
    rw [v3.2.2, show w32 (((nC r + 1 : Nat) : Int) - 1) = (nC r : Int) by have := nC_le r; unfold w32; omega]
    have go : ∀ a i, (a ≠ w ∨ i ≠ 15) → hput g w 15 (nC r : Int) a i = g a i := by
      intro a i z
      rcases z with z | z
      · exact hput_ne1 z
      · exact hput_ne2 z
    refine ⟨_, rfl, r, txt ++ [41], ls, dm, br, (Ff.tr F3).tr (fun c s a1 a2 a3 a4 a5 a6 a7 a8 a9 => go c s (a1.elim Or.inl (fun z => Or.inr (by omega)))), ⟨TxU_eq (go _ _ (Or.inl (by omega))) (fun i => go _ _ (Or.inl (by omega))) v1, LtU_eq (go _ _ (Or.inl (by omega))) (fun c i hc => go _ _ (Or.inl (by omega))) v2, ⟨by rw [go _ _ (Or.inr (by decide))]; exact v3.1, by rw [go _ _ (Or.inr (by decide))]; exact v3.2.1, hput_eq _ _ _ _⟩, SkU_eq (go _ _ (Or.inr (by decide))) (fun i => go _ _ (Or.inl (by omega))) v4, HdU_eq (fun i => go _ _ (Or.inl (by omega))) v5⟩, fun v hv => ok v (List.mem_cons_of_mem _ hv), by omega, rfl, rfl, rfl, rfl, ?_, ?_, ?_⟩
    · show rW G st r + ls.length ≤ 1 + rW G st r + ls.length
      omega
    · show rC G st r + 1 ≤ 1 + rC G st r
      omega
    · show rC G st r + br ≤ 1 + rC G st r + br
      omega
  | some q =>
    obtain ⟨d, s, half, node, cx⟩ := q
    have uo := ok (some (d, s, half, node, cx)) List.mem_cons_self
    obtain ⟨hh, -, ⟨s0, s1⟩, ⟨n0, n1⟩, -, -⟩ := uo
    have W := bx_W E.2.2.2.1
    have rel := rel_in W n0 n1
    have o0 : 0 ≤ off G node ∧ off G node < 12 := by unfold off; omega
    have er : rawU G (some (d, s, half, node, cx)) = 2 * (12 * s + off G node) + half := rfl
    have m1 : i_and (2 * (12 * s + off G node) + half) 1 = half := by
      rw [and_mod (k := 1) (by omega) (by omega) 1 (by decide) (by decide)]
      show (2 * (12 * s + off G node) + half) % 2 = half
      omega
    have m2 : i_shr (2 * (12 * s + off G node) + half) 1 = 12 * s + off G node := by
      rw [shr_div (by omega) (by omega) (by decide) (by decide)]
      show (2 * (12 * s + off G node) + half) / 2 = _
      omega
    have m3 : w32 (Int.tdiv (12 * s + off G node) 12) = s := by
      rw [Int.tdiv_eq_ediv_of_nonneg (by omega)]
      unfold w32; omega
    have m4 : w32 (Int.tmod (12 * s + off G node) 12) = off G node := by
      rw [Int.tmod_eq_emod_of_nonneg (by omega)]
      unfold w32; omega
    have d1 : nC (some (d, s, half, node, cx) :: r) = nC r := rfl
    rw [d1] at u3 hdm
    rw [er, if_neg (by omega), m1, m2, m3, m4]
    obtain ⟨g, x3, us, txt', ls', dm', br', t1, t2⟩ := unfoldNode_turn Ef hM (Uf _ u3) (ok (some (d, s, half, node, cx)) List.mem_cons_self) (fun v hv => ok v (List.mem_cons_of_mem _ hv)) hdm hW hB hMs
    rw [x3, ob_some]
    unfold Wy_unfold_j129
    rw [ex]
    exact ⟨g, rfl, us, txt', ls', dm', br', Ff.tr t1, t2⟩
theorem unfold_loop (E : UEnv h w P G o8 n row st) (hM : M ≤ 48) (hMs : M ≤ (st.length : Int)) {ts : List Uk} (U : USt h w G st [] [] 0 0 (nC ts) (ts.map (rawU G))) (ok : ∀ v ∈ ts, Uok G st M v) (hdm : nC ts ≤ 0) (hW : rW G st ts ≤ 576) (hC : rC G st ts ≤ 4000) :
    ∃ g, loopN (fun q => Wy_unfold_L45 w P q.1 q.2) LN (0, h) = some g ∧ FU w h g ∧ USt g w G st (rT G st ts []) (rL G st ts []) (rD G st ts 0) (rB G st ts 0) 0 [] := by
  obtain ⟨g, e, p1, p2⟩ := loop_ok (body := fun q => Wy_unfold_L45 w P q.1 q.2) (fun s => 0 ≤ s.1 ∧ FU w h s.2 ∧ ∃ (us : List Uk) (txt : List Int) (ls : List (Int × Int)) (dm br : Nat), USt s.2 w G st txt ls dm br (nC us) (us.map (rawU G)) ∧ (∀ v ∈ us, Uok G st M v) ∧ nC us ≤ dm ∧ rT G st us txt = rT G st ts [] ∧ rL G st us ls = rL G st ts [] ∧ rB G st us br = rB G st ts 0 ∧ rD G st us dm = rD G st ts 0 ∧ rW G st us + ls.length ≤ 576 ∧ s.1 + (rC G st us : Int) ≤ 4000 ∧ rC G st us + br ≤ 4000) (fun s => (4001 - s.1).toNat) (fun g => FU w h g ∧ USt g w G st (rT G st ts []) (rL G st ts []) (rD G st ts 0) (rB G st ts 0) 0 []) (by
    rintro ⟨x, g⟩ ⟨x0, Fg, us, txt, ls, dm, br, a1, a2, a3, a4, a5, a6, a7, a8, a9, a10⟩
    simp only at x0 Fg a1 a9
    simp only
    have Eg := UEnv_fu Fg E
    have k0 := (WyO_k E.1).1
    cases us with
    | nil =>
      right
      have e14 : g w 14 = 0 := a1.2.2.2.1.1
      refine ⟨g, ?_, Fg, ?_⟩
      · rw [L45_eq, if_neg (by have : (rC G st [] : Int) = 0 := rfl; omega), if_pos k0, e14, if_pos (Int.le_refl 0)]
      · rw [← a4, ← a5, ← a6, ← a7]
        exact a1
    | cons u r =>
      left
      obtain ⟨g', y, us', txt', ls', dm', br', b1, b2, b3, b4, b5, b6, b7, b8, b9, b10, b11⟩ := unfold_turn Eg hM hMs a1 a2 a3 a8 (by omega) x0 (by omega)
      exact ⟨_, y, ⟨by simp only; omega, Fg.tr b1, us', txt', ls', dm', br', b2, b3, b4, by rw [b5]; exact a4, by rw [b6]; exact a5, by rw [b7]; exact a6, by rw [b8]; exact a7, by omega, by simp only; omega, by omega⟩, by simp only; omega⟩) LN (0, h) ⟨Int.le_refl _, FU.rf, ts, [], [], 0, 0, U, ok, hdm, rfl, rfl, rfl, rfl, hW, by simp only; omega, by omega⟩ (by unfold LN; simp only; omega)
  exact ⟨g, e, p1, p2⟩
def wu1 (w P : Int) (f : Hp) : Option Hp := ob (Wy_push w 0 0 1 f) (fun r40 => ob (loopN (fun q => Wy_unfold_L45 w P q.1 q.2) LN (0, r40)) (fun e135 => some e135))
theorem unfold_eq (w P : Int) (h : Hp) : Wy_unfold w P h = if kK w = 8 then if kK (h w 9) = 0 then if kK ((hput h (h w 9) 1 0) w 10) = 0 then wu1 w P (hput (hput (hput (hput (hput (hput h (h w 9) 1 0) ((hput h (h w 9) 1 0) w 10) 1 0) w 2 0) w 3 0) w 15 0) w 14 0) else none else none else none := rfl
/-- a way that the steps hold is unfolded -/
theorem Wy_unfold_ok (E : UEnv h w P G o8 n row st) (hd : ∀ s : Int, 0 ≤ s → s < (st.length : Int) → h (w + 4) s = -1) {t : Int} {d : Dv} (t0 : 0 ≤ t) (t1 : t < nT G) (hs : sp G (ft G t) = 0) (l0 : 0 < st.length) (en : (sEnt st 0).1 = t) (A : At G st 0 st.length d 0 1 (ft G t)) (hW : uW G st d 0 (ft G t) 0 ≤ 576) (hC : uC G st d 0 (ft G t) 0 ≤ 4000) :
    ∃ g, Wy_unfold w P h = some g ∧ FU w h g ∧ USt g w G st (uT G st d 0 (ft G t) []) (uY G st d 0 (ft G t) []) (uD G st d 0 (ft G t) 0) (uB G st d 0 (ft G t) 0) 0 [] := by
  have T := E.2.2.1
  have k0 := (WyO_k E.1).1
  obtain ⟨k6, -, k8, -⟩ := WyO_k2 E.1
  have st48 := E.2.2.2.2.2
  have W := bx_W E.2.2.2.1
  have hr := root_in W t0 t1
  rw [unfold_eq, if_pos k0, T.1, if_pos k6, hput_ne1 (show w ≠ w + 6 by omega), T.2.1, if_pos k8]
  generalize hf : hput (hput (hput (hput (hput (hput h (w + 6) 1 0) (w + 8) 1 0) w 2 0) w 3 0) w 15 0) w 14 0 = f
  have fo : ∀ a i, (a ≠ w ∨ (i ≠ 2 ∧ i ≠ 3 ∧ i ≠ 14 ∧ i ≠ 15)) → (a ≠ w + 6 ∨ i ≠ 1) → (a ≠ w + 8 ∨ i ≠ 1) → f a i = h a i := by
    intro a i z1 z2 z3
    rw [← hf]
    have e1 : hput (hput h (w + 6) 1 0) (w + 8) 1 0 a i = h a i := by
      have : hput (hput h (w + 6) 1 0) (w + 8) 1 0 a i = hput h (w + 6) 1 0 a i := by
        rcases z3 with z | z
        · exact hput_ne1 z
        · exact hput_ne2 z
      rw [this]
      rcases z2 with z | z
      · exact hput_ne1 z
      · exact hput_ne2 z
    rw [← e1]
    rcases z1 with z | z
    · rw [hput_ne1 z, hput_ne1 z, hput_ne1 z, hput_ne1 z]
    · rw [hput_ne2 z.2.2.1, hput_ne2 z.2.2.2, hput_ne2 z.2.1, hput_ne2 z.1]
  have Ff : FU w h f := fun c s a1 a2 a3 a4 a5 a6 a7 a8 a9 => fo c s (a1.elim Or.inl (fun z => Or.inr (by omega))) a3 a5
  have Ef := UEnv_fu Ff E
  have Uf : USt f w G st [] [] 0 0 0 [] := by
    refine ⟨⟨?_, fun i v hi => absurd hi (by simp)⟩, ⟨⟨?_, fun i v hi => absurd hi (by simp)⟩, fun i v hi => absurd hi (by simp)⟩, ⟨?_, ?_, ?_⟩, ⟨?_, trivial⟩, ?_⟩
    · rw [← hf, hput_ne1 (by omega), hput_ne1 (by omega), hput_ne1 (by omega), hput_ne1 (by omega), hput_ne1 (by omega), hput_eq]; rfl
    · rw [← hf, hput_ne1 (by omega), hput_ne1 (by omega), hput_ne1 (by omega), hput_ne1 (by omega), hput_eq]; rfl
    · rw [← hf, hput_ne2 (by decide), hput_ne2 (by decide), hput_ne2 (by decide), hput_eq]; rfl
    · rw [← hf, hput_ne2 (by decide), hput_ne2 (by decide), hput_eq]; rfl
    · rw [← hf, hput_ne2 (by decide), hput_eq]; rfl
    · rw [← hf, hput_eq]; rfl
    · intro s a b
      left
      refine ⟨?_, fun i hi => absurd hi (by simp)⟩
      rw [fo _ _ (Or.inl (by omega)) (Or.inl (by omega)) (Or.inl (by omega))]
      exact hd s a b
  obtain ⟨g, x, Ug, Fg⟩ := wpush_ok Ef Uf (by decide) (s := 0) (m := 0) (half := 1) (by decide) (by decide) (by decide) (by decide) (Or.inr rfl)
  have Eg := UEnv_fu Fg Ef
  have z : rawU G (some (d, 0, 1, ft G t, [])) = 2 * (12 * 0 + 0) + 1 := by
    show 2 * (12 * 0 + off G (ft G t)) + 1 = _
    rw [show off G (ft G t) = 0 by unfold off; rw [hr.2.2]; omega]
  obtain ⟨g2, x2, F2, U2⟩ := unfold_loop (M := (st.length : Int)) (ts := [some (d, 0, 1, ft G t, [])]) Eg (by omega) (Int.le_refl _) (by
    show USt g w G st [] [] 0 0 0 [rawU G (some (d, 0, 1, ft G t, []))]
    rw [z]
    exact Ug) (by
    intro v hv
    rcases List.mem_cons.mp hv with e | hv
    · subst e
      exact ⟨Or.inr rfl, A, ⟨Int.le_refl _, by omega⟩, ⟨hr.1, hr.2.1⟩, ⟨by rw [en, hr.2.2], fun z => by rw [hr.2.2]; exact z⟩, by show sp G (ft G (sEnt st 0).1) = 0; rw [en]; exact hs⟩
    · exact absurd hv (List.not_mem_nil)) (Nat.le_refl _) (by show uW G st d 0 (ft G t) 0 + 0 ≤ 576; omega) (by show uC G st d 0 (ft G t) 0 + 0 ≤ 4000; omega)
  unfold wu1
  rw [x, ob_some, x2, ob_some]
  refine ⟨g2, rfl, (Ff.tr Fg).tr F2, ?_⟩
  have e1 : rT G st [some (d, 0, 1, ft G t, [])] [] = uT G st d 0 (ft G t) [] := rfl
  have e2 : rL G st [some (d, 0, 1, ft G t, [])] [] = uY G st d 0 (ft G t) [] := rfl
  have e3 : rB G st [some (d, 0, 1, ft G t, [])] 0 = uB G st d 0 (ft G t) 0 := by
    show 0 + uB G st d 0 (ft G t) 0 = _
    omega
  have e4 : rD G st [some (d, 0, 1, ft G t, [])] 0 = uD G st d 0 (ft G t) 0 := by
    show max 0 (0 + uD G st d 0 (ft G t) 0) = _
    omega
  rw [e1, e2, e3, e4] at U2
  exact U2
end
