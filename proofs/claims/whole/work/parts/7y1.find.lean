/-! the class: a way is found by its number -/
def fdK (l5 half : Int) (f : Hp) : Option ((Int × Hp) ⊕ (Hp)) :=
        if kK (f 55 1) = 3 then
        if kK (f 55 2) = 8 then
        if kK (f (f 55 2) 4) = 21 ∧ (0 : Int) ≤ f 55 7 ∧ f 55 7 < kL (f (f 55 2) 4) then
        if kK (f (f 55 1) 6) = 21 ∧ (0 : Int) ≤ f (f (f 55 2) 4) (f 55 7) ∧ f (f (f 55 2) 4) (f 55 7) < kL (f (f 55 1) 6) then
        if kK (f (f 55 1) 8) = 21 ∧ (0 : Int) ≤ w32 ((f (f (f 55 1) 6) (f (f (f 55 2) 4) (f 55 7))) + (f 55 8)) ∧ w32 ((f (f (f 55 1) 6) (f (f (f 55 2) 4) (f 55 7))) + (f 55 8)) < kL (f (f 55 1) 8) then
        if f (f (f 55 1) 8) (w32 ((f (f (f 55 1) 6) (f (f (f 55 2) 4) (f 55 7))) + (f 55 8))) = 4 then
          if kK (f (f 55 1) 9) = 21 ∧ (0 : Int) ≤ w32 ((f (f (f 55 1) 6) (f (f (f 55 2) 4) (f 55 7))) + (f 55 8)) ∧ w32 ((f (f (f 55 1) 6) (f (f (f 55 2) 4) (f 55 7))) + (f 55 8)) < kL (f (f 55 1) 9) then
          if kK (f (f 55 1) 17) = 21 ∧ (0 : Int) ≤ f (f (f 55 1) 9) (w32 ((f (f (f 55 1) 6) (f (f (f 55 2) 4) (f 55 7))) + (f 55 8))) ∧ f (f (f 55 1) 9) (w32 ((f (f (f 55 1) 6) (f (f (f 55 2) 4) (f 55 7))) + (f 55 8))) < kL (f (f 55 1) 17) then
          ob (WF_putHost 55 (f (f (f 55 1) 17) (f (f (f 55 1) 9) (w32 ((f (f (f 55 1) 6) (f (f (f 55 2) 4) (f 55 7))) + (f 55 8))))) (f 55 7) (f 55 8) f) (fun r154 =>
            WF_find_j207 55 l5 r154)
          else none
          else none
        else
          if f (f (f 55 1) 8) (w32 ((f (f (f 55 1) 6) (f (f (f 55 2) 4) (f 55 7))) + (f 55 8))) = 0 then
            if half = 1 then
              ob (WF_goAbove 55 (w32 ((f (f (f 55 1) 6) (f (f (f 55 2) 4) (f 55 7))) + (f 55 8))) f) (fun r182 =>
                WF_find_j207 55 l5 r182)
            else
              WF_find_j188 55 l5 (w32 ((f (f (f 55 1) 6) (f (f (f 55 2) 4) (f 55 7))) + (f 55 8))) f
          else
            WF_find_j188 55 l5 (w32 ((f (f (f 55 1) 6) (f (f (f 55 2) 4) (f 55 7))) + (f 55 8))) f
        else none
        else none
        else none
        else none
        else none
theorem L65_eq (l5 : Int) (h : Hp) : WF_find_L65 55 l5 h = if 4096 ≤ l5 then some (.inr h) else if kK 55 = 9 then if h 55 3 ≤ 0 then some (.inr h) else ob (WF_pop 55 h) (fun r => fdK l5 r.1 r.2) else none := rfl
def sumD : List Tk → Nat
  | [] => 0
  | (d, _) :: r => dst d + sumD r
theorem layA_len {G : Gm} : ∀ (ts : List Tk) (st : St), (layA G ts st).length = st.length + sumD ts
  | [], st => rfl
  | (d, s, half, node, x) :: r, st => by
    show (layA G r (lay G d s node st)).length = st.length + (dst d + sumD r)
    rw [layA_len r, lay_len]
    omega
theorem layA_app {G : Gm} : ∀ (us ts : List Tk) (st : St), layA G (us ++ ts) st = layA G ts (layA G us st)
  | [], _, _ => rfl
  | (d, s, half, node, x) :: r, ts, st => layA_app r ts (lay G d s node st)
theorem sumS_app : ∀ (us ts : List Tk), sumS (us ++ ts) = sumS us + sumS ts
  | [], ts => by show sumS ts = 0 + sumS ts; omega
  | (d, x) :: r, ts => by
    show dvS d + sumS (r ++ ts) = dvS d + sumS r + sumS ts
    rw [sumS_app r ts]
    omega
theorem dvS_pos : ∀ d : Dv, 1 ≤ dvS d
  | .zero => Nat.le_refl _
  | .var _ => Nat.le_refl _
  | .neg d => by show 1 ≤ dvS d + 1; omega
  | .intMul _ d => by show 1 ≤ dvS d + 1; omega
  | .natMul _ d => by show 1 ≤ dvS d + 1; omega
  | .add x y => by show 1 ≤ dvS x + dvS y + 1; omega
  | .sub x y => by have := dvS_pos x; show 1 ≤ dvS x + dvS y; omega
theorem sumS_len : ∀ ts : List Tk, ts.length ≤ sumS ts
  | [] => Nat.le_refl _
  | (d, x) :: r => by
    have := dvS_pos d
    have := sumS_len r
    show r.length + 1 ≤ dvS d + sumS r
    omega
section
variable {h h' g : Hp} {P o8 n : Int} {G : Gm} {row : Int → Int}
theorem Tok_mono {st st' : St} (hl : st.length ≤ st'.length) (he : ∀ s' : Int, s' < (st.length : Int) → sEnt st' s' = sEnt st s') : ∀ u : Tk, Tok G o8 n row st u → Tok G o8 n row st' u := by
  rintro ⟨d, s, half, node, i, j, p, q, k⟩ ⟨a1, a2, a3, a4, a5, a6, a7, a8, a9, a10⟩
  exact ⟨a1, a2, a3, a4, a5, a6, a7, by omega, by rw [he s a8]; exact a9, a10⟩
theorem find_turn (E : FEnv g P G o8 n row) {st : St} {u : Tk} {ts : List Tk} (T : XTab g 59 st) (K : Fin3 g ((u :: ts).map (rawT G))) (ok : ∀ v ∈ u :: ts, Tok G o8 n row st v) (F : Fresh st) (hl : st.length + sumD (u :: ts) ≤ 48) (hts : ts.length + 1 < 1024) {x : Int} (x0 : 0 ≤ x) (x1 : x < 4096) :
    ∃ g' us st', WF_find_L65 55 x g = some (.inl (x + 1, g')) ∧ FF g g' ∧ XTab g' 59 st' ∧ Fin3 g' (us.map (rawT G)) ∧ (∀ v ∈ us, Tok G o8 n row st' v) ∧ Fresh st' ∧ layA G us st' = layA G (u :: ts) st ∧ sumS us + 1 ≤ sumS (u :: ts) := by
  obtain ⟨d, s, half, node, i, j, p, q, k⟩ := u
  have B := E.2.1
  have W := bx_W B
  have I := bx_G B
  have R := bx_R B
  have nn := wf_nn W
  have nt := wf_nt W
  have n8 := (bx_n B).2.2
  have tk := ok (d, s, half, node, i, j, p, q, k) (List.mem_cons_self)
  have hi : itm G half node i j p q := tk.1
  have hk : k ≤ 1000000000000000 := tk.2.2.1
  have jn : j ≤ n := tk.2.1
  have s0 : 0 ≤ s := tk.2.2.2.2.2.2.1
  have s1 : s < (st.length : Int) := tk.2.2.2.2.2.2.2.1
  have et : (sEnt st s).1 = tr G node := tk.2.2.2.2.2.2.2.2.1
  have N : Nth G (ouB o8) row d half node i j p q k := tk.2.2.2.2.1
  have ho : ouB o8 (tr G node) = false := tk.2.2.2.2.2.1
  have hz : half = 0 → kd G node = 0 := tk.2.2.2.2.2.2.2.2.2
  have sp' := itm_span hi
  have n0 := hi.2.1
  have n1 := hi.2.2.1
  have ht := wf_tr W n0 n1
  have rl := rel_in W n0 n1
  have o0 : 0 ≤ off G node ∧ off G node < 12 := by unfold off; omega
  have hl' : st.length + (dst d + sumD ts) ≤ 48 := hl
  have ccr : 0 ≤ cc p j ∧ cc p j < 16 ∧ 0 ≤ cc q j ∧ cc q j < 16 := by
    unfold cc
    split <;> split <;> omega
  have kd0 := wf_kd W n0 n1
  have hlm : (ts.map (rawT G)).length = ts.length := List.length_map _
  have g3 : g 55 3 = ((ts.length : Int) + 1) := by
    rw [K.1]
    show (((ts.map (rawT G)).length + 1 : Nat) : Int) = _
    rw [hlm]; omega
  obtain ⟨f, xf, Kf, ⟨q7, q8, q9, q10, q11, q12, q13⟩, of⟩ := pop_ok (s := s) (n := off G node) (half := half) (i := i) (j := j) (p := cc p j) (q := cc q j) (r := (k : Int)) (ts := ts.map (rawT G)) E.1 K (by omega) s0 (by omega) o0.1 o0.2 hi.1 (by omega) (by omega) (by omega) (by omega) ccr.1 ccr.2.1 ccr.2.2.1 ccr.2.2.2
  have Ff := FF_pop of
  have Ef := FEnv_ff Ff E
  have Bf := Ef.2.1
  have Rf := bx_R Bf
  have Tf : XTab f 59 st := XTab_hi (fun c s hc => of c s (Or.inl (by omega))) T
  have Fd : Fld f s (off G node) i j p q := ⟨q7, q8, q10, q11, q12, q13⟩
  obtain ⟨k0, k1, -, k3, k4, -, -, -, -, -, -, -, k12, -⟩ := GrO_k Rf.1
  obtain ⟨w0, w1, -⟩ := WyO_k (w := 59) (Or.inl rfl)
  have e1 : f 55 1 = P := Ef.1.2.1
  have e2 : f 55 2 = 59 := Ef.1.2.2.1
  have e4 : f 59 4 = 59 + 1 := Ef.2.2.2.1
  have e60 : f (59 + 1) s = tr G node := by rw [(Tf.2.1 s s0 s1).1]; exact et
  have e6 : f P 6 = P + 1 := Rf.2.1.1
  have e8 : f P 8 = P + 3 := Rf.2.1.2.2.1
  have e9 : f P 9 = P + 4 := Rf.2.1.2.2.2.1
  have e17 : f P 17 = P + 12 := Rf.2.1.2.2.2.2.2.2.2.2.2.2.2.1
  have eft : f (P + 1) (tr G node) = ft G (tr G node) := Rf.2.2.2.2.1 _ ht.1 (by omega)
  have rn := Rf.2.2.2.2.2.1 node n0 n1
  have ekd : f (P + 3) node = kd G node := rn.2.1
  have elb : f (P + 4) node = lb G node := rn.2.2.1
  have eat : w32 (ft G (tr G node) + off G node) = node := by unfold off w32; omega
  have ex : w32 (x + 1) = x + 1 := by unfold w32; omega
  have done : ∀ g', Done f g' G o8 n row d s node st (ts.map (rawT G)) → ∃ us st', FF g g' ∧ XTab g' 59 st' ∧ Fin3 g' (us.map (rawT G)) ∧ (∀ v ∈ us, Tok G o8 n row st' v) ∧ Fresh st' ∧ layA G us st' = layA G ((d, s, half, node, i, j, p, q, k) :: ts) st ∧ sumS us + 1 ≤ sumS ((d, s, half, node, i, j, p, q, k) :: ts) := by
    rintro g' ⟨us, st', a1, a2, a3, a4, a5, a6, a7, a8, a9⟩
    refine ⟨us ++ ts, st', Ff.tr a1, a2, by rw [List.map_append]; exact a3, ?_, a5, ?_, ?_⟩
    · intro v hv
      rcases List.mem_append.mp hv with z | z
      · exact a4 v z
      · exact Tok_mono a8 a9 v (ok v (List.mem_cons_of_mem _ z))
    · rw [layA_app, a6]
      rfl
    · rw [sumS_app]
      show sumS us + sumS ts + 1 ≤ dvS d + sumS ts
      omega
  have e188 : kd G node ≠ 0 → WF_find_j188 55 x node f = some (.inl (x + 1, f)) := by
    intro hk0
    unfold WF_find_j188 WF_find_j207
    rw [if_pos kK_55, e1, if_pos k0, e8, if_pos ⟨k3.1, n0, by rw [k3.2]; omega⟩, ekd, if_neg hk0, ex]
  rw [L65_eq, if_neg (by omega), if_pos kK_55, g3, if_neg (by omega), xf, ob_some]
  show ∃ g' us st', fdK x half f = some (.inl (x + 1, g')) ∧ _
  unfold fdK
  rw [e1, if_pos k0, e2, if_pos kK_59, e4, q7, if_pos ⟨w1.1, s0, by rw [w1.2]; omega⟩, e6, e60, if_pos ⟨k1.1, ht.1, by rw [k1.2]; omega⟩, e8, eft, q8, eat, if_pos ⟨k3.1, n0, by rw [k3.2]; omega⟩, ekd]
  by_cases hk4 : kd G node = 4
  · have lbn := (wf_lb W n0 n1).1 (by omega)
    obtain ⟨t, d', ed⟩ : ∃ t d', d = .intMul t d' := by
      cases d with
      | zero => have := N.2.1; omega
      | var _ => exact False.elim N
      | intMul t d' => exact ⟨t, d', rfl⟩
      | neg _ => have := N.2.1; omega
      | sub _ _ => have := N.2.1; omega
      | natMul _ _ => have := N.2.1; omega
      | add _ _ => have := N.2.1; omega
    subst ed
    obtain ⟨-, ep, eq, k', Pk, t0, t1, hg, hs, f1, hk', nd', -, -⟩ := inv_place I hi N
    have hr := root_in W t0 t1
    have dl : st.length + (dst d' + 1 + sumD ts) ≤ 48 := hl'
    obtain ⟨g', x', F', T', K'⟩ := putHost_ok (bits := f (P + 12) (lb G node)) (l := lb G node) Ef (fun t a b => (Rf.2.2.2.2.2.2.1 (lb G node) lbn.1 lbn.2 t a b).1) q9 q10 q11 (by omega) (by omega) jn hk Pk Tf F (by omega) (into := s) (nd' := off G node) (Or.inr ⟨s0, s1, o0.1, o0.2⟩) Kf (by omega)
    have ff := done g' (by
      refine ⟨[(d', st.length, 1, ft G t, i, j, -1, -1, k')], (t, s, off G node) :: st, F', T', ?_, ?_, ?_, rfl, ?_, ?_, ?_⟩
      · have z1 : rawT G (d', st.length, 1, ft G t, i, j, -1, -1, k') = (2 * (12 * (st.length : Int) + 0) + 1, cvr i j j j, (k' : Int)) := by
          show (2 * (12 * (st.length : Int) + off G (ft G t)) + 1, cvr i j (cc (-1) j) (cc (-1) j), _) = _
          rw [show off G (ft G t) = 0 by unfold off; rw [hr.2.2]; omega, cc_no]
        show Fin3 g' (rawT G (d', st.length, 1, ft G t, i, j, -1, -1, k') :: _)
        rw [z1]
        exact K'
      · intro u hu
        have l1 : ((((t, s, off G node) :: st).length : Nat) : Int) = st.length + 1 := by show ((st.length + 1 : Nat) : Int) = _; omega
        rcases List.mem_cons.mp hu with e | hu
        · subst e
          exact ⟨f1, jn, by have := Pk.2.2.1; omega, hk', nd', by rw [hr.2.2]; exact (goB_iff.mp hg).2.2, by omega, by omega, by rw [cons_ent, hr.2.2], fun z => absurd z (by decide)⟩
        · exact absurd hu (List.not_mem_nil)
      · exact lay_Fresh (G := G) (.intMul t .zero) s node st s1 F
      · show dvS d' + 0 + 1 ≤ dvS d' + 1
        omega
      · show st.length ≤ st.length + 1
        omega
      · intro s' hs'
        show (if s' = (st.length : Int) then _ else sEnt st s') = _
        rw [if_neg (by omega)])
    obtain ⟨us, st', b⟩ := ff
    rw [if_pos hk4, e9, if_pos ⟨k4.1, n0, by rw [k4.2]; omega⟩, elb, e17, if_pos ⟨k12.1, lbn.1, by rw [k12.2]; exact lbn.2⟩, x', ob_some]
    unfold WF_find_j207
    rw [ex]
    exact ⟨g', us, st', rfl, b⟩
  rw [if_neg hk4]
  by_cases hk0 : kd G node = 0
  · rw [if_pos hk0]
    by_cases hh : half = 1
    · subst hh
      obtain ⟨g', x', D⟩ := goAbove_ok Ef hk0 tk Fd q9 Tf F (by omega) Kf (by omega)
      obtain ⟨us, st', b⟩ := done g' D
      rw [if_pos rfl, x', ob_some]
      unfold WF_find_j207
      rw [ex]
      exact ⟨g', us, st', rfl, b⟩
    · have h0 : half = 0 := by have := hi.1; omega
      subst h0
      obtain ⟨g', x', D⟩ := goBelow_ok Ef hk0 tk Fd q9 Tf F (by omega) Kf (by omega)
      obtain ⟨us, st', b⟩ := done g' D
      rw [if_neg hh]
      unfold WF_find_j188 WF_find_j207
      rw [if_pos kK_55, e1, if_pos k0, e8, if_pos ⟨k3.1, n0, by rw [k3.2]; omega⟩, ekd, if_pos hk0, x', ob_some, ex]
      exact ⟨g', us, st', rfl, b⟩
  · rw [if_neg hk0, e188 hk0]
    obtain ⟨us, st', b⟩ := done f (by
      have ed : d = .zero := by
        cases d with
        | zero => rfl
        | var _ => exact False.elim N
        | intMul t d' =>
          rcases N with ⟨z, -⟩ | ⟨-, z, -⟩
          · have := hi.1; omega
          · exact absurd z hk4
        | neg _ => exact absurd N.2.1 hk0
        | sub _ _ => exact absurd N.2.1 hk0
        | natMul _ _ => exact absurd N.2.1 hk0
        | add _ _ => exact absurd N.2.1 hk0
      subst ed
      exact ⟨[], st, FF.rf, Tf, Kf, fun v hv => absurd hv (List.not_mem_nil), F, rfl, Nat.le_refl _, Nat.le_refl _, fun _ _ => rfl⟩)
    exact ⟨f, us, st', rfl, b⟩
theorem find_loop (E : FEnv h P G o8 n row) {st : St} {ts : List Tk} (T : XTab h 59 st) (K : Fin3 h (ts.map (rawT G))) (ok : ∀ v ∈ ts, Tok G o8 n row st v) (F : Fresh st) (hl : (layA G ts st).length ≤ 48) (hS : sumS ts ≤ 1000) :
    ∃ g, loopN (fun q => WF_find_L65 55 q.1 q.2) LN (0, h) = some g ∧ FF h g ∧ XTab g 59 (layA G ts st) := by
  obtain ⟨r, e, p1, p2⟩ := loop_ok (body := fun q => WF_find_L65 55 q.1 q.2) (fun s => 0 ≤ s.1 ∧ FF h s.2 ∧ ∃ us st', XTab s.2 59 st' ∧ Fin3 s.2 (us.map (rawT G)) ∧ (∀ v ∈ us, Tok G o8 n row st' v) ∧ Fresh st' ∧ layA G us st' = layA G ts st ∧ s.1 + (sumS us : Int) ≤ 1000) (fun s => (1001 - s.1).toNat) (fun r => FF h r ∧ XTab r 59 (layA G ts st)) (by
    rintro ⟨x, g⟩ ⟨x0, Fg, us, st', a1, a2, a3, a4, a5, a6⟩
    simp only at x0 Fg a1 a2 a6
    simp only
    cases us with
    | nil =>
      right
      have g3 : g 55 3 = 0 := a2.1
      refine ⟨g, ?_, Fg, ?_⟩
      · rw [L65_eq, if_neg (by have : (sumS [] : Int) = 0 := rfl; omega), if_pos kK_55, g3, if_pos (Int.le_refl 0)]
      · rw [← a5]; exact a1
    | cons u us =>
      left
      have l1 := layA_len (G := G) (u :: us) st'
      rw [a5] at l1
      have l2 := sumS_len (u :: us)
      have l3 : (u :: us).length = us.length + 1 := rfl
      obtain ⟨g', us', st'', b1, b2, b3, b4, b5, b6, b7, b8⟩ := find_turn (FEnv_ff Fg E) a1 a2 a3 a4 (by omega) (by omega) x0 (by omega)
      exact ⟨_, b1, ⟨by simp only; omega, Fg.tr b2, us', st'', b3, b4, b5, b6, by rw [b7]; exact a5, by simp only; omega⟩, by simp only; omega⟩) LN (0, h) ⟨Int.le_refl _, FF.rf, ts, st, T, K, ok, F, rfl, by simp only; omega⟩ (by unfold LN; simp only; omega)
  exact ⟨r, e, p1, p2⟩
end
