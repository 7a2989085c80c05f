/-! items: how many -/
def cnt (p : Nat → Bool) : Nat → Nat
  | 0 => 0
  | k + 1 => cnt p k + (if p k then 1 else 0)
theorem cnt_s (p : Nat → Bool) (k : Nat) : cnt p (k + 1) = cnt p k + (if p k then 1 else 0) := rfl
theorem cnt_le_n (p : Nat → Bool) : ∀ k, cnt p k ≤ k
  | 0 => Nat.le_refl _
  | k + 1 => by
    have := cnt_le_n p k
    unfold cnt
    split <;> omega
theorem cnt_congr {p q : Nat → Bool} : ∀ k, (∀ x, x < k → p x = q x) → cnt p k = cnt q k
  | 0, _ => rfl
  | k + 1, h => by
    unfold cnt
    rw [cnt_congr k (fun x hx => h x (by omega)), h k (by omega)]
theorem cnt_rm {q : Nat → Bool} {y : Nat} : ∀ M, y < M → q y = true → cnt q M = cnt (fun z => q z && decide (z ≠ y)) M + 1
  | 0, h, _ => by omega
  | M + 1, h, hq => by
    show cnt q M + (if q M then 1 else 0) = cnt (fun z => q z && decide (z ≠ y)) M + (if (q M && decide (M ≠ y)) = true then 1 else 0) + 1
    by_cases hy : y = M
    · subst hy
      rw [hq, cnt_congr (p := fun z => q z && decide (z ≠ y)) (q := q) y (fun x hx => by
        have : x ≠ y := by omega
        simp [this])]
      simp
    · rw [cnt_rm M (by omega) hq]
      have : M ≠ y := fun z => hy z.symm
      rw [decide_eq_true this, Bool.and_true]
      omega
theorem cnt_inj {p : Nat → Bool} {f : Nat → Nat} {M : Nat} : ∀ (N : Nat) (q : Nat → Bool), (∀ x, x < N → p x = true → f x < M ∧ q (f x) = true) → (∀ x x', x < N → x' < N → p x = true → p x' = true → f x = f x' → x = x') → cnt p N ≤ cnt q M
  | 0, _, _, _ => Nat.zero_le _
  | N + 1, q, h1, h2 => by
    show cnt p N + (if p N then 1 else 0) ≤ _
    by_cases hp : p N = true
    · obtain ⟨a, b⟩ := h1 N (by omega) hp
      rw [if_pos hp, cnt_rm M a b]
      have := cnt_inj N (fun z => q z && decide (z ≠ f N)) (fun x hx hpx => by
        obtain ⟨c, d⟩ := h1 x (by omega) hpx
        refine ⟨c, ?_⟩
        have : f x ≠ f N := fun z => by have := h2 x N (by omega) (by omega) hpx hp z; omega
        simp [d, this]) (fun x x' hx hx' a b c => h2 x x' (by omega) (by omega) a b c)
      omega
    · rw [if_neg hp]
      exact cnt_inj N q (fun x hx hpx => h1 x (by omega) hpx) (fun x x' hx hx' a b c => h2 x x' (by omega) (by omega) a b c)
/-- as many of these as of those -/
theorem cnt_bij {p q : Nat → Bool} {N M : Nat} (f g : Nat → Nat) (h1 : ∀ x, x < N → p x = true → f x < M ∧ q (f x) = true ∧ g (f x) = x) (h2 : ∀ y, y < M → q y = true → g y < N ∧ p (g y) = true ∧ f (g y) = y) : cnt p N = cnt q M := by
  apply Nat.le_antisymm
  · exact cnt_inj N q (fun x hx hp => ⟨(h1 x hx hp).1, (h1 x hx hp).2.1⟩) (fun x x' hx hx' a b c => by rw [← (h1 x hx a).2.2, ← (h1 x' hx' b).2.2, c])
  · exact cnt_inj M p (fun x hx hp => ⟨(h2 x hx hp).1, (h2 x hx hp).2.1⟩) (fun x x' hx hx' a b c => by rw [← (h2 x hx a).2.2, ← (h2 x' hx' b).2.2, c])
/-! a cell's span and gap -/
def dcJ (x : Nat) : Nat := ((List.range 8).filter (fun j => decide (sJ ((j + 1 : Nat) : Int) ≤ (x : Int)))).length
def dcQ (x : Nat) : Nat := ((List.range 8).filter (fun j => decide (sJ ((dcJ x : Nat) : Int) + sQ ((j + 1 : Nat) : Int) ≤ (x : Int)))).length
def dcP (x : Nat) : Nat := ((List.range 8).filter (fun j => decide (sJ ((dcJ x : Nat) : Int) + sQ ((dcQ x : Nat) : Int) + sP ((j + 1 : Nat) : Int) ≤ (x : Int)))).length
def dcI (x : Nat) : Nat := ((x : Int) - sJ ((dcJ x : Nat) : Int) - sQ ((dcQ x : Nat) : Int) - sP ((dcP x : Nat) : Int)).toNat
theorem dc_ok0 : ∀ x : Fin 495, dcI x.val ≤ dcP x.val ∧ dcP x.val ≤ dcQ x.val ∧ dcQ x.val ≤ dcJ x.val ∧ dcJ x.val ≤ 8 ∧ cI (dcI x.val) (dcJ x.val) (dcP x.val) (dcQ x.val) = (x.val : Int) := by decide +kernel
def cdy (i j p q : Int) : Nat := (1000 * i + 100 * j + 10 * p + q + 11).toNat
theorem y_dec (y : Nat) : y = 1000 * (y / 1000) + 100 * (y / 100 % 10) + 10 * (y / 10 % 10) + y % 10 := by
  have e1 : y / 1000 = y / 100 / 10 := by rw [Nat.div_div_eq_div_mul]
  have e2 : y / 100 = y / 10 / 10 := by rw [Nat.div_div_eq_div_mul]
  omega
theorem cdy_y {y : Nat} : cdy ((y / 1000 : Nat) : Int) ((y / 100 % 10 : Nat) : Int) (((y / 10 % 10 : Nat) : Int) - 1) (((y % 10 : Nat) : Int) - 1) = y := by
  have := y_dec y
  unfold cdy
  generalize y / 1000 = a at *
  generalize y / 100 % 10 = b at *
  generalize y / 10 % 10 = c at *
  generalize y % 10 = d at *
  omega
theorem cdy_dec {i j p q : Int} (i0 : 0 ≤ i) (i1 : i ≤ 8) (j0 : 0 ≤ j) (j1 : j ≤ 8) (p0 : -1 ≤ p) (p1 : p ≤ 8) (q0 : -1 ≤ q) (q1 : q ≤ 8) : cdy i j p q < 10000 ∧ ((cdy i j p q / 1000 : Nat) : Int) = i ∧ ((cdy i j p q / 100 % 10 : Nat) : Int) = j ∧ ((cdy i j p q / 10 % 10 : Nat) : Int) - 1 = p ∧ ((cdy i j p q % 10 : Nat) : Int) - 1 = q := by
  unfold cdy
  omega
noncomputable def itP (G : Gm) (ob n : Int) (row : Int → Int) (half node : Int) (y : Nat) : Bool := by
  classical exact decide (itm G half node ((y / 1000 : Nat) : Int) ((y / 100 % 10 : Nat) : Int) (((y / 10 % 10 : Nat) : Int) - 1) (((y % 10 : Nat) : Int) - 1) ∧ ((y / 100 % 10 : Nat) : Int) ≤ n ∧ wW G (ouB ob) row half node ((y / 1000 : Nat) : Int) ((y / 100 % 10 : Nat) : Int) (((y / 10 % 10 : Nat) : Int) - 1) (((y % 10 : Nat) : Int) - 1) ≠ 0)
theorem itP_iff {G : Gm} {ob n : Int} {row : Int → Int} {half node : Int} {y : Nat} : itP G ob n row half node y = true ↔ (itm G half node ((y / 1000 : Nat) : Int) ((y / 100 % 10 : Nat) : Int) (((y / 10 % 10 : Nat) : Int) - 1) (((y % 10 : Nat) : Int) - 1) ∧ ((y / 100 % 10 : Nat) : Int) ≤ n ∧ wW G (ouB ob) row half node ((y / 1000 : Nat) : Int) ((y / 100 % 10 : Nat) : Int) (((y / 10 % 10 : Nat) : Int) - 1) (((y % 10 : Nat) : Int) - 1) ≠ 0) := by
  unfold itP
  simp only [decide_eq_true_eq]
theorem itP_at {G : Gm} {ob n : Int} {row : Int → Int} {half node i j p q : Int} (hi : itm G half node i j p q) : cdy i j p q < 10000 ∧ (itP G ob n row half node (cdy i j p q) = true ↔ (j ≤ n ∧ wW G (ouB ob) row half node i j p q ≠ 0)) := by
  obtain ⟨a, b, c, d⟩ := itm_span hi
  obtain ⟨y0, y1, y2, y3, y4⟩ := cdy_dec (i := i) (j := j) (p := p) (q := q) (by omega) (by omega) (by omega) (by omega) (by omega) (by omega) (by omega) (by omega)
  refine ⟨y0, ?_⟩
  rw [itP_iff, y1, y2, y3, y4]
  exact ⟨fun z => z.2, fun z => ⟨hi, z⟩⟩
noncomputable def itemN (G : Gm) (ob n : Int) (row : Int → Int) (half node : Int) : Nat := if ouB ob (tr G node) then 0 else cnt (itP G ob n row half node) 10000
noncomputable def itemsV (G : Gm) (ob n : Int) (row : Int → Int) (half : Int) : Int := if half < 0 ∨ 1 < half then -2 else (sI (fun node => itemN G ob n row half node) 0 (nN G - 1) : Int)
section
variable {h : Hp} {P ob n : Int} {G : Gm} {row : Int → Int}
theorem node_cells (B : BX h P G ob n row) (C : CntOK h P G ob n row) {half node : Int} (hh : half = 0 ∨ half = 1) (n0 : 0 ≤ node) (n1 : node < nN G) : cnt (fun x => decide (h 36 (rwN G half node + (x : Int)) ≠ 0)) (sJ (n + 1)).toNat = itemN G ob n row half node := by
  have W := bx_W B
  have E := Ev_cnt B C
  have nn := bx_n B
  have Q := aFix_AEq (ou := ouB ob) W (agC_law row) n
  have s01 := (wf_sp W n0 n1).1
  have sJn := s_in (a := n + 1) (by omega) (by omega)
  have T := C.2.2.2.2
  have dec : ∀ x : Nat, x < (sJ (n + 1)).toNat → dcI x ≤ dcP x ∧ dcP x ≤ dcQ x ∧ dcQ x ≤ dcJ x ∧ (dcJ x : Int) ≤ n ∧ cI (dcI x) (dcJ x) (dcP x) (dcQ x) = (x : Int) := by
    intro x hx
    obtain ⟨a, b, c, d, e⟩ := dc_ok0 ⟨x, by omega⟩
    simp only at a b c d e
    refine ⟨a, b, c, ?_, e⟩
    apply Classical.byContradiction
    intro hj
    have q1 := s_in (a := ((dcQ x : Nat) : Int)) (by omega) (by omega)
    have q2 := s_in (a := ((dcP x : Nat) : Int)) (by omega) (by omega)
    have q3 : sJ (n + 1) ≤ sJ ((dcJ x : Nat) : Int) := by
      by_cases he : n + 1 = ((dcJ x : Nat) : Int)
      · rw [he]; exact Int.le_refl _
      · have := sJ_lt (a := n + 1) (b := ((dcJ x : Nat) : Int)) (by omega) (by omega) (by omega) (by omega)
        have q4 := s_in (a := n + 1) (by omega) (by omega)
        omega
    unfold cI at e
    omega
  have tvI : ∀ i j p q, itm G half node i j p q → j ≤ n → tv h 21 G half node i j (cc p j) (cc q j) = if ouB ob (tr G node) = false then capN (wW G (ouB ob) row half node i j p q) else 0 := by
    intro i j p q hi hj
    rw [T.1 _ _ _ _ _ _ hi hj, count_hom W Q hi hj]
    cases ouB ob (tr G node)
    · rw [if_pos ⟨rfl, rfl⟩, if_pos rfl]
    · rw [if_neg (fun z => Bool.noConfusion z.1), if_neg (fun z => Bool.noConfusion z)]
  -- a cell that isn't empty is an item's
  have cell : ∀ x : Nat, x < (sJ (n + 1)).toNat → h 36 (rwN G half node + (x : Int)) ≠ 0 → ∃ p q, itm G half node (dcI x) (dcJ x) p q ∧ cc p (dcJ x) = dcP x ∧ cc q (dcJ x) = dcQ x ∧ (p = if sp G node = 1 then (dcP x : Int) else -1) ∧ (q = if sp G node = 1 then (dcQ x : Int) else -1) := by
    intro x hx hz
    obtain ⟨a, b, c, d, e⟩ := dec x hx
    rcases s01 with s0 | s1
    · have hpq : ((dcP x : Nat) : Int) = dcJ x ∧ ((dcQ x : Nat) : Int) = dcJ x := by
        apply Classical.byContradiction
        intro hne
        have := T.2.1 half node (dcI x) (dcJ x) (dcP x) (dcQ x) hh n0 n1 s0 (by omega) (by omega) (by omega) (by omega) d (by omega)
        unfold tv at this
        rw [e] at this
        exact hz this
      refine ⟨-1, -1, ⟨hh, n0, n1, by omega, by omega, by omega, Or.inr ⟨s0, rfl, rfl⟩⟩, ?_, ?_, ?_, ?_⟩
      · rw [cc_no]; exact hpq.1.symm
      · rw [cc_no]; exact hpq.2.symm
      · rw [if_neg (by omega)]
      · rw [if_neg (by omega)]
    · refine ⟨dcP x, dcQ x, ⟨hh, n0, n1, by omega, by omega, by omega, Or.inl ⟨s1, by omega, by omega, by omega⟩⟩, cc_yes _ (by omega), cc_yes _ (by omega), ?_, ?_⟩
      · rw [if_pos s1]
      · rw [if_pos s1]
  unfold itemN
  cases ho : ouB ob (tr G node)
  · rw [if_neg (fun z => Bool.noConfusion z)]
    refine cnt_bij (fun x => cdy (dcI x) (dcJ x) (if sp G node = 1 then (dcP x : Int) else -1) (if sp G node = 1 then (dcQ x : Int) else -1)) (fun y => (cI ((y / 1000 : Nat) : Int) ((y / 100 % 10 : Nat) : Int) (cc (((y / 10 % 10 : Nat) : Int) - 1) ((y / 100 % 10 : Nat) : Int)) (cc (((y % 10 : Nat) : Int) - 1) ((y / 100 % 10 : Nat) : Int))).toNat) ?_ ?_
    · intro x hx hp
      have hz := of_decide_eq_true hp
      obtain ⟨p, q, hi, c1, c2, ep, eq⟩ := cell x hx hz
      obtain ⟨a, b, c, d, e⟩ := dec x hx
      rw [← ep, ← eq]
      obtain ⟨y0, yi⟩ := itP_at (ob := ob) (n := n) (row := row) hi
      have tv1 := tvI _ _ _ _ hi d
      rw [ho, if_pos rfl, c1, c2] at tv1
      unfold tv at tv1
      rw [e] at tv1
      refine ⟨y0, yi.mpr ⟨d, fun z => hz ?_⟩, ?_⟩
      · show h (21 + 15) _ = 0
        rw [tv1, z]; rfl
      · obtain ⟨a', b', c', d'⟩ := itm_span hi
        obtain ⟨-, y1, y2, y3, y4⟩ := cdy_dec (i := dcI x) (j := dcJ x) (p := p) (q := q) (by omega) (by omega) (by omega) (by omega) (by omega) (by omega) (by omega) (by omega)
        rw [y1, y2, y3, y4, c1, c2, e, Int.toNat_natCast]
    · intro y hy hp
      obtain ⟨hi, hj, hw⟩ := itP_iff.mp hp
      have ci := cc_in hi
      have kc := cI_in ci.1 ci.2.1 ci.2.2.1 ci.2.2.2 (by omega) (n := n + 1) (by omega) (by omega)
      have tv1 := tvI _ _ _ _ hi hj
      rw [ho, if_pos rfl] at tv1
      unfold tv at tv1
      generalize hx : cI ((y / 1000 : Nat) : Int) ((y / 100 % 10 : Nat) : Int) (cc (((y / 10 % 10 : Nat) : Int) - 1) ((y / 100 % 10 : Nat) : Int)) (cc (((y % 10 : Nat) : Int) - 1) ((y / 100 % 10 : Nat) : Int)) = x at *
      have xl : x.toNat < (sJ (n + 1)).toNat := by omega
      obtain ⟨a, b, c, d, e⟩ := dec x.toNat xl
      rw [show ((x.toNat : Nat) : Int) = x by omega] at e
      obtain ⟨f1, f2, f3, f4⟩ := cI_inj ci.1 ci.2.1 ci.2.2.1 ci.2.2.2 (by omega) (show (0 : Int) ≤ dcI x.toNat by omega) (by omega) (by omega) (by omega) (by omega) (hx.trans e.symm)
      refine ⟨xl, ?_, ?_⟩
      · simp only [decide_eq_true_eq]
        rw [show ((x.toNat : Nat) : Int) = x by omega]
        show h (21 + 15) _ ≠ 0
        rw [tv1]
        exact fun z => hw (capN_0.mp z)
      · rcases hi.2.2.2.2.2.2 with ⟨s1, d1, d2, d3⟩ | ⟨s0, d1, d2⟩
        · rw [if_pos s1, if_pos s1, ← f1, ← f2, ← f3, ← f4, cc_yes _ (by omega), cc_yes _ (by omega)]
          exact cdy_y
        · rw [if_neg (by omega), if_neg (by omega), ← f1, ← f2]
          have := cdy_y (y := y)
          rw [d1, d2] at this
          exact this
  · rw [if_pos rfl]
    have : ∀ x, x < (sJ (n + 1)).toNat → decide (h 36 (rwN G half node + (x : Int)) ≠ 0) = false := by
      intro x hx
      apply decide_eq_false
      intro hz
      obtain ⟨p, q, hi, c1, c2, -⟩ := cell x hx hz
      obtain ⟨a, b, c, d, e⟩ := dec x hx
      have tv1 := tvI _ _ _ _ hi d
      rw [ho, if_neg (fun z => Bool.noConfusion z), c1, c2] at tv1
      unfold tv at tv1
      rw [e] at tv1
      exact hz tv1
    rw [cnt_congr (q := fun _ => false) _ this]
    have z : ∀ k, cnt (fun _ => false) k = 0 := by
      intro k
      induction k with
      | zero => rfl
      | succ k ih => show cnt (fun _ => false) k + 0 = 0; rw [ih]
    exact z _
theorem items_le {half node : Int} : itemN G ob n row half node ≤ 10000 := by
  unfold itemN
  split
  · omega
  · exact cnt_le_n _ _
theorem sI_le {f : Int → Nat} {b : Nat} (hf : ∀ x, f x ≤ b) : ∀ k : Nat, sI f 0 ((k : Int) - 1) ≤ b * k
  | 0 => by rw [sI_none (by omega)]; omega
  | k + 1 => by
    have := sI_le hf k
    rw [sI_succ (by omega), show ((k + 1 : Nat) : Int) - 1 - 1 = (k : Int) - 1 by omega]
    have h2 := hf (((k + 1 : Nat) : Int) - 1)
    rw [Nat.mul_succ]
    omega
theorem X_items_ok (B : BX h P G ob n row) (K : KC h P G ob n row) (half : Int) : ∃ h', X_items 0 half h = some (itemsV G ob n row half, h') ∧ CnC h h' P G ob n row := by
  unfold X_items itemsV
  by_cases h0 : half < 0
  · rw [if_pos h0, if_pos (Or.inl h0)]; exact ⟨h, rfl, Or.inl rfl⟩
  rw [if_neg h0]
  by_cases h1 : half ≤ 1
  · obtain ⟨g, e, F, C, B1⟩ := know B K
    have W := bx_W B
    have E := Ev_cnt B1 C
    have R := bx_R B1
    have nn := bx_n B1
    have wn := wf_nn W
    have S1 := bx_sx B1
    have hh : half = 0 ∨ half = 1 := by omega
    have sJn := s_in (a := n + 1) (by omega) (by omega)
    have g4 : g 21 4 = 36 := sx_at S1 (by decide)
    rw [if_pos h1, if_pos (show kK 0 = 10 by decide), e, ob_some, sx_at S1 (show (0, 8, 21) ∈ shX by decide), if_pos (show kK 21 = 1 by decide), if_neg (show ¬ (half < 0 ∨ 1 < half) by omega)]
    obtain ⟨r, er, pr⟩ := loop_ok (body := fun q => Ch_itemsOf_L4 21 half g q.1 q.2) (fun s => 0 ≤ s.2 ∧ s.2 ≤ nN G ∧ s.1 = (sI (fun node => itemN G ob n row half node) 0 (s.2 - 1) : Int)) (fun s => (nN G - s.2).toNat) (fun r => r = (sI (fun node => itemN G ob n row half node) 0 (nN G - 1) : Int)) (by
      rintro ⟨c, x⟩ ⟨x0, x1, hc⟩
      simp only at x0 x1 hc
      simp only
      unfold Ch_itemsOf_L4
      rw [if_pos (show kK 21 = 1 by decide), C.1, if_pos (bx_kP B1), R.2.2.2.1]
      by_cases hx : nN G ≤ x
      · right
        exact ⟨c, by rw [if_pos hx], by rw [hc, show x = nN G by omega]⟩
      · left
        have rw1 := rwN_in W x0 (show x < nN G by omega) hh
        have bd := sI_le (f := fun node => itemN G ob n row half node) (fun _ => items_le) x.toNat
        rw [show ((x.toNat : Nat) : Int) - 1 = x - 1 by omega] at bd
        obtain ⟨r2, er2, pr2⟩ := loop_ok (body := fun q => Ch_itemsOf_L26 21 half x (rwN G half x) g q.1 q.2) (fun s => 0 ≤ s.2 ∧ s.2 ≤ sJ (n + 1) ∧ s.1 = c + (cnt (fun y => decide (g 36 (rwN G half x + (y : Int)) ≠ 0)) s.2.toNat : Int)) (fun s => (sJ (n + 1) - s.2).toNat) (fun r => r = c + (cnt (fun y => decide (g 36 (rwN G half x + (y : Int)) ≠ 0)) (sJ (n + 1)).toNat : Int)) (by
          rintro ⟨c', y⟩ ⟨y0, y1, hc'⟩
          simp only at y0 y1 hc'
          simp only
          unfold Ch_itemsOf_L26 Ch_itemsOf_j62
          rw [if_pos (show kK 21 = 1 by decide), C.2.1, show w32 (n + 1) = n + 1 by unfold w32; omega, if_pos (show (0 : Int) ≤ n + 1 ∧ n + 1 < 10 by omega), g4]
          by_cases hy : sJ (n + 1) ≤ y
          · right
            exact ⟨c', by rw [if_pos hy], by rw [hc', show y = sJ (n + 1) by omega]⟩
          · left
            have y36 : kK 36 = 22 ∧ (0 : Int) ≤ rwN G half x + y ∧ rwN G half x + y < kL 36 := ⟨by decide, by omega, by rw [show kL 36 = 39600 by decide]; omega⟩
            have cl := cnt_le_n (fun y => decide (g 36 (rwN G half x + (y : Int)) ≠ 0)) y.toNat
            rw [if_neg hy, show w32 (rwN G half x + y) = rwN G half x + y by unfold w32; omega, if_pos y36, show w32 (y + 1) = y + 1 by unfold w32; omega]
            refine ⟨_, rfl, ⟨by simp only; omega, by simp only; omega, ?_⟩, by simp only; omega⟩
            simp only
            rw [show (y + 1).toNat = y.toNat + 1 by omega, cnt_s]
            rw [show ((y.toNat : Nat) : Int) = y by omega, hc']
            by_cases hz : g 36 (rwN G half x + y) = 0
            · rw [if_pos hz, decide_eq_false (fun z => z hz)]
              simp only [Bool.false_eq_true, if_false]
              generalize cnt (fun y : Nat => decide (g 36 (rwN G half x + (y : Int)) ≠ 0)) y.toNat = w at *
              unfold w32; omega
            · rw [if_neg hz, decide_eq_true hz]
              simp only [if_true]
              generalize cnt (fun y : Nat => decide (g 36 (rwN G half x + (y : Int)) ≠ 0)) y.toNat = w at *
              unfold w32; omega) LN (c, 0) ⟨Int.le_refl _, sJn.1, by simp only; unfold cnt; simp⟩ (by unfold LN; simp only; omega)
        rw [if_neg hx, Ch_row_ok E x0 (by omega) hh, ob_some, er2, ob_some, show w32 (x + 1) = x + 1 by unfold w32; omega]
        refine ⟨_, rfl, ⟨by simp only; omega, by simp only; omega, ?_⟩, by simp only; omega⟩
        simp only
        rw [pr2, node_cells B1 C hh x0 (by omega), hc, show x + 1 - 1 = x by omega, sI_succ x0]
        omega) LN (0, 0) ⟨Int.le_refl _, wn.1, by simp only; rw [sI_none (by omega)]; rfl⟩ (by unfold LN; simp only; omega)
    unfold Ch_itemsOf
    rw [er, ob_some, ob_some, pr]
    exact ⟨g, rfl, Or.inr ⟨F, C⟩⟩
  · rw [if_neg h1, if_pos (Or.inr (by omega))]; exact ⟨h, rfl, Or.inl rfl⟩
end
