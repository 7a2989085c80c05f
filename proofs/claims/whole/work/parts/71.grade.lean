/-! how many steps there can be -/
def plN (G : Gm) : Nat → Int → Int
  | 0, _ => 0
  | k + 1, n => if kd G n = 4 then 1 else if kd G n = 0 then plN G k (c1 G n) + (if c2 G n = -1 then 0 else plN G k (c2 G n)) else 0
/-- places below a node -/
def pl (G : Gm) (n : Int) : Int := plN G (ft G (tr G n + 1) - n).toNat n
section
variable {G : Gm}
theorem plN_st (W : WF G) : ∀ (k k' : Nat) (n : Int), 0 ≤ n → n < nN G → ft G (tr G n + 1) - n ≤ k → ft G (tr G n + 1) - n ≤ k' → plN G k n = plN G k' n
  | 0, k', n, n0, n1, h1, h2 => by have := wf_tr W n0 n1; omega
  | k + 1, 0, n, n0, n1, h1, h2 => by have := wf_tr W n0 n1; omega
  | k + 1, k' + 1, n, n0, n1, h1, h2 => by
    unfold plN
    split
    · rfl
    split
    · rename_i h4 h0
      have hch := wf_ch W n0 n1 h0
      have a1 := child_in W n0 n1 hch.1 hch.2.1
      rw [plN_st W k k' (c1 G n) a1.1 a1.2.1 (by rw [a1.2.2]; omega) (by rw [a1.2.2]; omega)]
      congr 1
      split
      · rfl
      · rename_i h2'
        rcases hch.2.2 with q | q
        · exact absurd q h2'
        · have a2 := child_in W n0 n1 (by omega) q.2
          exact plN_st W k k' (c2 G n) a2.1 a2.2.1 (by rw [a2.2.2]; omega) (by rw [a2.2.2]; omega)
    · rfl
theorem pl_eq (W : WF G) {n : Int} (n0 : 0 ≤ n) (n1 : n < nN G) : pl G n = if kd G n = 4 then 1 else if kd G n = 0 then pl G (c1 G n) + (if c2 G n = -1 then 0 else pl G (c2 G n)) else 0 := by
  have t := wf_tr W n0 n1
  obtain ⟨k, hk⟩ : ∃ k : Nat, (ft G (tr G n + 1) - n).toNat = k + 1 := ⟨(ft G (tr G n + 1) - n).toNat - 1, by omega⟩
  unfold pl
  rw [hk]
  show (if kd G n = 4 then 1 else if kd G n = 0 then plN G k (c1 G n) + (if c2 G n = -1 then 0 else plN G k (c2 G n)) else 0) = _
  split
  · rfl
  split
  · rename_i h4 h0
    have hch := wf_ch W n0 n1 h0
    have a1 := child_in W n0 n1 hch.1 hch.2.1
    rw [plN_st W k (ft G (tr G (c1 G n) + 1) - c1 G n).toNat (c1 G n) a1.1 a1.2.1 (by rw [a1.2.2]; omega) (by omega)]
    congr 1
    split
    · rfl
    · rename_i h2'
      rcases hch.2.2 with q | q
      · exact absurd q h2'
      · have a2 := child_in W n0 n1 (by omega) q.2
        exact plN_st W k (ft G (tr G (c2 G n) + 1) - c2 G n).toNat (c2 G n) a2.1 a2.2.1 (by rw [a2.2.2]; omega) (by omega)
  · rfl
/-- leaves that count, against the room -/
theorem pl_room (I : GIn G) : ∃ en : Int → Int, (∀ (k : Nat) (n : Int), 0 ≤ n → n < nN G → nN G - n ≤ k → 0 ≤ pl G n ∧ 2 * (pl G n + nd G n + sp G n) ≤ en n - n + 1) ∧ ∀ t, 0 ≤ t → t < nT G → en (ft G t) ≤ ft G (t + 1) := by
  obtain ⟨W, U, en, e1, e2⟩ := I
  refine ⟨en, ?_, e2⟩
  intro k
  induction k with
  | zero => intro n n0 n1 hk; omega
  | succ k ih =>
    intro n n0 n1 hk
    have q := pl_eq W n0 n1
    obtain ⟨f1, f2⟩ := e1 n n0 n1
    have kd0 := wf_kd W n0 n1
    have s0 := (wf_sp W n0 n1)
    have d0 := (wf_nd W n0 n1)
    by_cases h0 : kd G n = 0
    · rw [if_neg (by omega), if_pos h0] at q
      have hch := wf_ch W n0 n1 h0
      have a1 := child_in W n0 n1 hch.1 hch.2.1
      have i1 := ih (c1 G n) a1.1 a1.2.1 (by omega)
      have sn := s0.2.2.2 h0
      have dn := d0.2.2.2.1 h0
      have g := f2 h0
      clear s0 d0 f1 f2
      by_cases h2 : c2 G n = -1
      · rw [if_pos h2] at q sn dn
        have := g.2.1 h2
        omega
      · rw [if_neg h2] at q sn dn
        have g2 := g.2.2 h2
        rcases hch.2.2 with z | z
        · exact absurd z h2
        · have a2 := child_in W n0 n1 (by omega) z.2
          have i2 := ih (c2 G n) a2.1 a2.2.1 (by omega)
          omega
    · have g := f1 h0
      have sn := s0.2
      have d1 := d0.2.1
      have d2 := d0.2.2.1
      have dz := d0.1
      have s1 := s0.1
      clear s0 d0 f1 f2 ih
      rw [if_neg h0] at q
      by_cases h4 : kd G n = 4
      · rw [if_pos h4] at q
        have := sn.2.1 (by omega) h0
        have := d2 (by omega)
        omega
      · rw [if_neg h4] at q
        by_cases h3 : kd G n = 3
        · have := sn.1 h3
          have := d2 (by omega)
          omega
        · have := sn.2.1 h3 h0
          by_cases h1 : kd G n = 1
          · have := d1 h1; omega
          · have := d2 (by omega); omega
theorem pl_0 (W : WF G) : ∀ (k : Nat) (n : Int), 0 ≤ n → n < nN G → nN G - n ≤ k → nd G (ft G (tr G n)) = 0 → pl G n = 0 := by
  intro k
  induction k with
  | zero => intro n n0 n1 hk; omega
  | succ k ih =>
    intro n n0 n1 hk hz
    have q := pl_eq W n0 n1
    by_cases h4 : kd G n = 4
    · have := wf_place W n0 n1 h4; omega
    · rw [if_neg h4] at q
      by_cases h0 : kd G n = 0
      · rw [if_pos h0] at q
        have hch := wf_ch W n0 n1 h0
        have a1 := child_in W n0 n1 hch.1 hch.2.1
        have i1 := ih (c1 G n) a1.1 a1.2.1 (by omega) (by rw [a1.2.2]; exact hz)
        by_cases h2 : c2 G n = -1
        · rw [if_pos h2] at q; omega
        · rw [if_neg h2] at q
          rcases hch.2.2 with z | z
          · exact absurd z h2
          · have a2 := child_in W n0 n1 (by omega) z.2
            have i2 := ih (c2 G n) a2.1 a2.2.1 (by omega) (by rw [a2.2.2]; exact hz)
            omega
      · rw [if_neg h0] at q; exact q
theorem pl_nn (I : GIn G) {n : Int} (n0 : 0 ≤ n) (n1 : n < nN G) : 0 ≤ pl G n := by
  obtain ⟨en, e, -⟩ := pl_room I
  exact (e (nN G - n).toNat n n0 n1 (by omega)).1
theorem pl_root (I : GIn G) {t : Int} (t0 : 0 ≤ t) (t1 : t < nT G) : pl G (ft G t) + sp G (ft G t) ≤ 5 * nd G (ft G t) ∧ pl G (ft G t) + nd G (ft G t) + sp G (ft G t) ≤ 6 := by
  have W := I.1
  obtain ⟨en, e, e2⟩ := pl_room I
  have r := root_in W t0 t1
  have a := (e (nN G - ft G t).toNat (ft G t) r.1 r.2.1 (by omega)).2
  have b := e2 t t0 t1
  have c := (wf_step W t0 t1).2
  have d := (wf_nd W r.1 r.2.1).1
  have s := (wf_sp W r.1 r.2.1).1
  have g := (wf_root W t0 t1).2
  refine ⟨?_, by omega⟩
  by_cases hz : nd G (ft G t) = 0
  · have := pl_0 W (nN G - ft G t).toNat (ft G t) r.1 r.2.1 (by omega) (by rw [r.2.2]; exact hz)
    rcases s with s | s
    · omega
    · have := g s; omega
  · omega
/-- steps below an item, at most -/
def gr (G : Gm) (node i j p q : Int) : Int := 5 * (cov i j p q - nd G node) + pl G node
theorem gr_nn (I : GIn G) {half node i j p q : Int} (h : itm G half node i j p q) (hc : nd G node ≤ cov i j p q) : 0 ≤ gr G node i j p q ∧ gr G node i j p q ≤ 40 + pl G node := by
  have := pl_nn I h.2.1 h.2.2.1
  have c := cov_in h
  have d := (wf_nd I.1 h.2.1 h.2.2.1).1
  unfold gr; omega
theorem gr_split (I : GIn G) {node i j p q i1 j1 p1 q1 i2 j2 p2 q2 : Int} (n0 : 0 ≤ node) (n1 : node < nN G) (hk : kd G node = 0) (h2 : c2 G node ≠ -1) (hc : cov i j p q = cov i1 j1 p1 q1 + cov i2 j2 p2 q2) : gr G (c1 G node) i1 j1 p1 q1 + gr G (c2 G node) i2 j2 p2 q2 = gr G node i j p q := by
  have q' := pl_eq I.1 n0 n1
  rw [if_neg (by omega), if_pos hk, if_neg h2] at q'
  have d := (wf_nd I.1 n0 n1).2.2.2.1 hk
  rw [if_neg h2] at d
  unfold gr; omega
theorem gr_unary (I : GIn G) {node i j p q : Int} (n0 : 0 ≤ node) (n1 : node < nN G) (hk : kd G node = 0) (h2 : c2 G node = -1) : gr G (c1 G node) i j p q = gr G node i j p q := by
  have q' := pl_eq I.1 n0 n1
  rw [if_neg (by omega), if_pos hk, if_pos h2] at q'
  have d := (wf_nd I.1 n0 n1).2.2.2.1 hk
  rw [if_pos h2] at d
  unfold gr; omega
theorem gr_round (I : GIn G) {node i j p q t a b : Int} (t0 : 0 ≤ t) (t1 : t < nT G) (hs : sp G (ft G t) = 1) (hc : cov i j p q = cov a b p q + cov i j a b) : gr G (ft G t) i j a b + 1 + gr G node a b p q ≤ gr G node i j p q := by
  have := (pl_root I t0 t1).1
  unfold gr; omega
theorem gr_place (I : GIn G) {node i j p q t : Int} (n0 : 0 ≤ node) (n1 : node < nN G) (hk : kd G node = 4) (t0 : 0 ≤ t) (t1 : t < nT G) (hp : p = -1) (hq : q = -1) : gr G (ft G t) i j (-1) (-1) + 1 ≤ gr G node i j p q := by
  have a := (pl_root I t0 t1).1
  have r := root_in I.1 t0 t1
  have s := (wf_sp I.1 r.1 r.2.1).1
  have q' := pl_eq I.1 n0 n1
  rw [if_pos hk] at q'
  have d := (wf_nd I.1 n0 n1).2.2.1 (by omega)
  subst hp hq
  unfold gr; omega
end
