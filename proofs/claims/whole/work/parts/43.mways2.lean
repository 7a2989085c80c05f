section MW2
variable {h h' : Hp} {G : Gm} {ou : Int → Bool} {row : Int → Int}
def Got (r : Option (Int × Hp)) (h : Hp) (G : Gm) (ou : Int → Bool) (row : Int → Int) (v : Nat) : Prop := ∃ h', r = some (capN v, h') ∧ D144 h h' ∧ Memo h' G ou row
theorem Got.same (hM : Memo h G ou row) (v : Nat) : Got (some (capN v, h)) h G ou row v := ⟨h, rfl, D144.rf, hM⟩
theorem fr_cov (W : WF G) {i j p q half node i' j' p' q' half' node' : Int} (h : itm G half node i j p q) (h' : itm G half' node' i' j' p' q') (hc : cov i' j' p' q' < cov i j p q) (hr : node' = ft G (tr G node') → turn G node' ≤ 1) : fr G half' node' i' j' p' q' + 4 ≤ fr G half node i j p q := by
  have b := turn_in (G := G) node
  have b' := turn_in (G := G) node'
  have c := rel_in W h.2.1 h.2.2.1
  have c' := rel_in W h'.2.1 h'.2.2.1
  unfold fr
  have e1 : (if half' = 1 then (0 : Int) else -2) ≤ 0 := by split <;> omega
  have e2 : -2 ≤ (if half = 1 then (0 : Int) else -2) := by split <;> omega
  by_cases hz : node' = ft G (tr G node')
  · have := hr hz; omega
  · omega
theorem fr_same (W : WF G) {i j p q node i' j' p' q' half' : Int} (h : itm G 1 node i j p q) (h' : itm G half' node i' j' p' q') (hc : cov i' j' p' q' < cov i j p q) : fr G half' node i' j' p' q' + 4 ≤ fr G 1 node i j p q := by
  unfold fr
  have e1 : (if half' = 1 then (0 : Int) else -2) ≤ 0 := by split <;> omega
  rw [if_pos rfl]
  omega
theorem fr_child (W : WF G) {i j p q i' j' p' q' node m : Int} (h0 : 0 ≤ node) (h1 : node < nN G) (h2 : node < m) (h3 : m < ft G (tr G node + 1)) (hn : nd G m = nd G node) (hc : cov i' j' p' q' = cov i j p q) : fr G 1 m i' j' p' q' + 4 ≤ fr G 0 node i j p q := by
  have a := child_in W h0 h1 h2 h3
  unfold fr
  have : turn G m = turn G node := by unfold turn; rw [a.2.2, hn]
  rw [this, hc, a.2.2, if_pos rfl, if_neg (by decide)]
  omega
theorem fr_turn (W : WF G) {i j p q i' j' p' q' half t node : Int} (h : itm G half node i j p q) (t0 : 0 ≤ t) (t1 : t < nT G) (ht : turn G (ft G t) < turn G node) (hc : cov i' j' p' q' = cov i j p q) : fr G 1 (ft G t) i' j' p' q' + 4 ≤ fr G half node i j p q := by
  have c := rel_in W h.2.1 h.2.2.1
  have hr := root_in W t0 t1
  unfold fr
  have e2 : -2 ≤ (if half = 1 then (0 : Int) else -2) := by split <;> omega
  rw [hr.2.2, if_pos rfl, hc]
  omega
theorem root_turn1 (W : WF G) {t : Int} (t0 : 0 ≤ t) (t1 : t < nT G) : turn G (ft G t) ≤ 1 := by
  rw [turn_root W t0 t1]; split <;> omega
theorem fr_pos (W : WF G) {half node i j p q : Int} (h : itm G half node i j p q) : 4 ≤ fr G half node i j p q := by
  have a := (cov_in h).1
  have b := turn_in (G := G) node
  have c := rel_in W h.2.1 h.2.2.1
  unfold fr
  split <;> omega
theorem fr_half {node i j p q : Int} : fr G 0 node i j p q + 2 = fr G 1 node i j p q := by
  unfold fr; rw [if_pos rfl, if_neg (by decide)]; omega
theorem around_fr (W : WF G) {node i j p q t a b : Int} (h : itm G 1 node i j p q) (t0 : 0 ≤ t) (t1 : t < nT G) (hs : sp G (ft G t) = 1) (hi : itm G 0 node a b p q) (ho : itm G 1 (ft G t) i j a b) (hc : cov i j p q = cov a b p q + cov i j a b) (r1 : nd G (ft G t) ≤ cov i j a b) (r2 : nd G node ≤ cov a b p q) :
    fr G 0 node a b p q + 4 ≤ fr G 1 node i j p q ∧ fr G 1 (ft G t) i j a b + 4 ≤ fr G 1 node i j p q := by
  have h1 := (wf_root W t0 t1).2 hs
  refine ⟨fr_same W h hi (by omega), ?_⟩
  have c0 := (cov_in hi).1
  by_cases hz : cov a b p q = 0
  · have n0 := (wf_nd W h.2.1 h.2.2.1).1
    refine fr_turn W h t0 t1 ?_ (by omega)
    have := turn_zero W (n := node) (by omega)
    rw [turn_root W t0 t1, if_neg (by omega)]
    omega
  · exact fr_cov W h ho (by omega) (fun _ => root_turn1 W t0 t1)
theorem nonroot (W : WF G) {n m : Int} (h0 : 0 ≤ n) (h1 : n < nN G) (h2 : n < m) (h3 : m < ft G (tr G n + 1)) : m ≠ ft G (tr G m) := by
  have a := child_in W h0 h1 h2 h3
  have b := wf_tr W h0 h1
  rw [a.2.2]; omega
theorem split_fr (W : WF G) {node i j p q i1 j1 p1 q1 i2 j2 p2 q2 : Int} (h : itm G 0 node i j p q) (hk : kd G node = 0) (h2 : c2 G node ≠ -1) (f1 : itm G 1 (c1 G node) i1 j1 p1 q1) (f2 : itm G 1 (c2 G node) i2 j2 p2 q2) (hc : cov i j p q = cov i1 j1 p1 q1 + cov i2 j2 p2 q2) (r1 : nd G (c1 G node) ≤ cov i1 j1 p1 q1) (r2 : nd G (c2 G node) ≤ cov i2 j2 p2 q2) :
    fr G 1 (c1 G node) i1 j1 p1 q1 + 4 ≤ fr G 0 node i j p q ∧ fr G 1 (c2 G node) i2 j2 p2 q2 + 4 ≤ fr G 0 node i j p q := by
  have n0 := h.2.1
  have n1 := h.2.2.1
  have hch := wf_ch W n0 n1 hk
  rcases hch.2.2 with qq | qq
  · exact absurd qq h2
  have hnd := (wf_nd W n0 n1).2.2.2.1 hk
  rw [if_neg h2] at hnd
  have c10 := (cov_in f1).1
  have c20 := (cov_in f2).1
  have z1 := (wf_nd W f1.2.1 f1.2.2.1).1
  have z2 := (wf_nd W f2.2.1 f2.2.2.1).1
  refine ⟨?_, ?_⟩
  · by_cases hz : cov i2 j2 p2 q2 = 0
    · exact fr_child W n0 n1 hch.1 hch.2.1 (by omega) (by omega)
    · exact fr_cov W h f1 (by omega) (fun z => absurd z (nonroot W n0 n1 hch.1 hch.2.1))
  · by_cases hz : cov i1 j1 p1 q1 = 0
    · exact fr_child W n0 n1 (by omega) qq.2 (by omega) (by omega)
    · exact fr_cov W h f2 (by omega) (fun z => absurd z (nonroot W n0 n1 (by omega) qq.2))
theorem sI_succ {f : Int → Nat} {lo x : Int} (hx : lo ≤ x) : sI f lo x = sI f lo (x - 1) + f x := by
  unfold sI
  rw [show (x + 1 - lo).toNat = (x - 1 + 1 - lo).toNat + 1 by omega]
  show sN f lo _ + f (lo + ((x - 1 + 1 - lo).toNat : Nat)) = _
  rw [show lo + (((x - 1 + 1 - lo).toNat : Nat) : Int) = x by omega]
theorem sI_none {f : Int → Nat} {lo hi : Int} (hx : hi < lo) : sI f lo hi = 0 := by
  unfold sI
  rw [show (hi + 1 - lo).toNat = 0 by omega]; rfl
theorem acc_loop {body : Int × Int × Hp → Option ((Int × Int × Hp) ⊕ (Int × Hp))} {A : Nat} {f : Int → Nat} {lo hi : Int} (hM : Memo h G ou row) (hlo : lo ≤ hi + 1) (hN : hi + 1 - lo < 1000)
    (step : ∀ (acc : Nat) (x : Int) (h1 : Hp), lo ≤ x → x ≤ hi → D144 h h1 → Memo h1 G ou row → ∃ h2, body (capN acc, x, h1) = some (.inl (capN (acc + f x), x + 1, h2)) ∧ D144 h h2 ∧ Memo h2 G ou row)
    (exit : ∀ (acc : Nat) (h1 : Hp), D144 h h1 → Memo h1 G ou row → body (capN acc, hi + 1, h1) = some (.inr (capN acc, h1))) :
    Got (loopN body LN (capN A, lo, h)) h G ou row (A + sI f lo hi) := by
  obtain ⟨r, e, p1, p2, p3⟩ := loop_ok (body := body) (fun s => lo ≤ s.2.1 ∧ s.2.1 ≤ hi + 1 ∧ s.1 = capN (A + sI f lo (s.2.1 - 1)) ∧ D144 h s.2.2 ∧ Memo s.2.2 G ou row) (fun s => (hi + 1 - s.2.1).toNat) (fun r => r.1 = capN (A + sI f lo hi) ∧ D144 h r.2 ∧ Memo r.2 G ou row) (by
    rintro ⟨acc, x, h1⟩ ⟨x0, x1, ha, hd, hm⟩
    simp only at x0 x1 ha hd hm
    by_cases hx : x ≤ hi
    · left
      obtain ⟨h2, e1, e2, e3⟩ := step (A + sI f lo (x - 1)) x h1 x0 hx hd hm
      refine ⟨_, by rw [ha]; exact e1, ⟨by simp only; omega, by simp only; omega, ?_, e2, e3⟩, by simp only; omega⟩
      simp only
      rw [show x + 1 - 1 = x by omega, sI_succ x0, Nat.add_assoc]
    · right
      have hx' : x = hi + 1 := by omega
      subst hx'
      refine ⟨_, by rw [ha]; exact exit _ h1 hd hm, ?_, hd, hm⟩
      simp only
      rw [show hi + 1 - 1 = hi by omega]) LN (capN A, lo, h) ⟨Int.le_refl _, hlo, by simp only; rw [sI_none (by omega)]; rfl, D144.rf, hM⟩ (by unfold LN; simp only; omega)
  obtain ⟨r1, r2⟩ := r
  simp only at p1 p2 p3
  exact ⟨r2, by rw [e, p1], p2, p3⟩
end MW2
