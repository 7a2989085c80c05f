/-! used: the reference -/
section
variable {G : Gm} {ou ou' : Int → Bool} {row : Int → Int} {n : Int}
theorem orF_bit (f : Int → Bool) {u : Int} (u0 : 0 ≤ u) (u1 : u < 31) : ∀ k : Nat, k < 31 → (bit (orF f k) u = 1 ↔ u < k ∧ f u = true)
  | 0, _ => by
    show bit 0 u = 1 ↔ _
    rw [bit_0 u0 (by omega)]
    constructor
    · intro z; omega
    · intro z; omega
  | k + 1, hk => by
    have ih := orF_bit f u0 u1 k (by omega)
    have hin := orF_in f k (by omega)
    have hp : 2 ^ k ≤ 2 ^ 30 := Nat.pow_le_pow_right (by decide) (by omega)
    show bit (if f k then i_or (orF f k) (i_shl 1 k) else orF f k) u = 1 ↔ _
    by_cases hf : f k = true
    · rw [if_pos hf, bit_or1 hin.1 (by omega) (by omega) (by omega) u0 u1]
      by_cases hu : u = k
      · rw [if_pos hu, hu]
        exact ⟨fun _ => ⟨by omega, hf⟩, fun _ => rfl⟩
      · rw [if_neg hu, ih]
        exact ⟨fun z => ⟨by omega, z.2⟩, fun z => ⟨by omega, z.2⟩⟩
    · rw [if_neg hf, ih]
      constructor
      · exact fun z => ⟨by omega, z.2⟩
      · rintro ⟨z1, z2⟩
        by_cases hu : u = k
        · rw [hu] at z2; exact absurd z2 hf
        · exact ⟨by omega, z2⟩
theorem wW_ou (W : WF G) (ho : ∀ t, 0 ≤ t → t < nT G → ou' t = ou t) {half node i j p q : Int} (h : itm G half node i j p q) (hj : j ≤ n) : wW G ou' row half node i j p q = wW G ou row half node i j p q := by
  have Q := aFix_AEq (ou := ou) W (agZ_law row) n
  have key : ∀ o : Int → Bool, (∀ t, 0 ≤ t → t < nT G → o t = ou t) → aFix G ou (agZ row) half node i j p q = (wW G o row half node i j p q : Int) := by
    intro o hr'
    refine hom_item (ou' := o) (R := fun x n => x = (n : Int)) W (hom (ou' := o) (R := fun x n => x = (n : Int)) W (agZ_law row) Q (fun t t0 t1 h => by rw [hr' t t0 t1]; exact h) rfl rfl ?_ ?_ ?_ ?_) h hj
    · intro i l i0 i1 _ _
      show (if row i = l then (1 : Int) else 0) = _
      split <;> rfl
    · intro x y m n _ _ hx hy
      subst hx hy
      show (m : Int) + n = ((m + n : Nat) : Int)
      omega
    · intro x y m n _ _ hx hy
      subst hx hy
      exact (Int.natCast_mul m n).symm
    · intro t x n t0 t1 ho _ hx
      rw [hr' t t0 t1, ho]; exact hx
  have a := key ou' ho
  have b := key ou (fun _ _ _ => rfl)
  omega
theorem goB_ou {t l s : Int} (ho : ou' t = ou t) : goB G ou' t l s = goB G ou t l s := by
  unfold goB; rw [ho]
theorem stN_ou (W : WF G) (ho : ∀ t, 0 ≤ t → t < nT G → ou' t = ou t) (n0 : 0 ≤ n) (n8 : n ≤ 8) : stN G ou' row n = stN G ou row n := by
  unfold stN
  split
  · rfl
  · unfold wHosts
    apply sI_congr
    intro t t0 t1
    rw [goB_ou (ho t t0 (by omega))]
    split
    · rename_i hg
      exact wW_ou W ho (root_item W t0 (by omega) (goB_spec hg).1 (by decide) n0 n8) (Int.le_refl _)
    · rfl
end
section
variable {h : Hp} {G : Gm} {ob n : Int} {row : Int → Int}
theorem shw_0 {m : Nat} : shw (capN m) = 0 ↔ m = 0 := by
  unfold shw
  constructor
  · intro z
    split at z
    · exact capN_0.mp z
    · omega
  · intro z
    rw [capN_0.mpr z]; rfl
theorem use_sum (I : GIn G) {S : SV} (Q : AEq G (ouB ob) (agS row) r64 n S) (n0 : 0 ≤ n) (n8 : n ≤ 8) {u : Int} (u0 : 0 ≤ u) (u1 : u < 8) : bu u (sumV G ob n row) ↔ nT G ≠ 0 ∧ UH G (ouB ob) S u (lb G 0) 0 n := by
  have W := I.1
  have L := agS_law row
  have nt := wf_nt W
  have Q0 := aFix_AEq (ou := ouB ob) W L n
  have e : aHosts G (ouB ob) (agS row) (aFix G (ouB ob) (agS row)) (lb G 0) 0 n = aHosts G (ouB ob) (agS row) S (lb G 0) 0 n := by
    unfold aHosts
    apply aI_congr
    intro t t0 t1
    split
    · rename_i hg
      have hi := root_item W (i := 0) (j := n) t0 (show t < nT G by omega) (goB_spec hg).1 (by decide) n0 n8
      have a := (mu_in W hi).1
      rw [AEq_u W L Q0 Q (mu G 1 (ft G t) 0 n (-1) (-1) + 1).toNat _ _ _ _ _ _ hi (Int.le_refl _) (by omega)]
    · rfl
  unfold sumV
  by_cases hz : nT G = 0
  · rw [if_pos hz]
    exact ⟨fun z => absurd z (bu_0 u0 u1), fun z => absurd hz z.1⟩
  · rw [if_neg hz, e, uH u0 u1 I Q (by decide) n0 n8 (Int.le_refl _) (fun t t0 t1 _ => by have := gr_top I t0 t1 n0 n8; omega)]
    exact ⟨fun z => ⟨hz, z⟩, fun z => z.2⟩
theorem M_used_ok (B : BM h G ob n row) {d : Nat} (hd : 1960 ≤ d) (w : Int) : ∃ h', M_used d 121 w h = some (useV G ob n row w, h') ∧ Lk2 h h' := by
  unfold M_used M_in M_in_j17
  by_cases h0 : w < 0
  · rw [if_pos h0, ob_some, if_pos rfl]
    refine ⟨h, ?_, Lk2.rf⟩
    unfold useV; rw [if_pos (Or.inl h0)]
  rw [if_neg h0]
  by_cases h1 : 1 < w
  · rw [if_pos h1, ob_some, if_pos rfl]
    refine ⟨h, ?_, Lk2.rf⟩
    unfold useV; rw [if_pos (Or.inr h1)]
  have hw : w = 0 ∨ w = 1 := by omega
  rw [if_neg h1, ob_some, if_neg (by decide), if_pos kK_121]
  have I : GIn G := B.2.2.2.1
  have W := bm_W B
  have nt := wf_nt W
  have nn := wf_nn W
  have o := bm_ob B
  obtain ⟨l1, l2, l3, l4⟩ := bm_L B
  have eo := i_or_00 B
  obtain ⟨g, x, F, K, Z⟩ := M_looksAt_ok B (more := 0) (by omega) (by omega)
  rw [eo] at K
  obtain ⟨ga, xa, Da, Ka⟩ := M_waysOfAll_ok W K (d := d - 1) (by omega) l2 (Int.le_refl _) l3
  have Q8 := aFix_AEq (ou := ouB ob) W (agS_law (ga 138)) 8
  generalize hS : aFix G (ouB ob) (agS (ga 138)) = S at Q8
  have Qn := AEq_row Ka.2.2.2 Q8 l3
  rw [x, ob_some, K.2.2.1, xa, ob_some]
  dsimp only
  unfold M_used_j36
  rw [if_pos kK_121]
  generalize hgb : hput ga 121 45 0 = gb
  dsimp only
  have Fb : F4 ga gb := by
    rw [← hgb]
    intro c s h1 _ _ _ _
    rcases h1 with h1 | h1
    · exact hput_ne1 h1
    · exact hput_ne2 h1
  have b45 : gb 121 45 = 0 := by rw [← hgb, hput_eq]
  have eb : ∀ c s, c ≠ 121 → gb c s = ga c s := fun c s hc => by rw [← hgb, hput_ne1 hc]
  have Rb : RepM gb G (ouB ob) (ga 138) := RepM_4 Ka.1 Fb
  have Mb : Memo gb G (ouB ob) (ga 138) := by
    intro half node i j p q hi
    rw [mkey_4 Fb, eb 144 _ (by decide)]
    exact Ka.2.1 half node i j p q hi
  have Tb : MetI gb G S 1000 := by
    intro half node i j p q hi _
    left
    have := mkey_in Rb W hi
    rw [eb 147 _ (by decide), Da 147 _ (by decide)]
    exact (Z _ this.1 this.2).2.2.2
  have Ub : Uin gb := by unfold Uin; rw [b45]; decide
  obtain ⟨g2, x2, J2, b2⟩ := use_loop (body := fun q => M_used_L44 d 121 w (if capN (stN G (ouB ob) row n) ≤ 0 then 0 else 1) q.1 q.2) (lo := 0) (hi := nT G - 1) (T0 := fun _ => False) (T := fun t u => goB G (ouB ob) t (lb G 0) 0 = true ∧ S 1 (ft G t) 0 n (-1) (-1) ≠ 0 ∧ (u = t ∨ bu u (S 1 (ft G t) 0 n (-1) (-1)))) (fun f => JM gb f G (ouB ob) (ga 138) S 1000) (by omega) (by omega) (JM_rf Mb Tb Ub) (fun u u0 u1 => by rw [b45, bit_0 u0 (by omega)]; exact ⟨fun z => by omega, False.elim⟩) (by
    intro t f Ta t0 t1 Jf hTa
    have Rf := RepM_4 Rb Jf.1
    have e34 : f 121 34 = n := by rw [Jf.1 121 34 (Or.inr (by decide)) (by decide) (by decide) (by decide) (by decide), Fb 121 34 (Or.inr (by decide)) (by decide) (by decide) (by decide) (by decide)]; exact Ka.2.2.1
    have e6 : f 121 6 = 124 := ms_at Rf.1 (by decide)
    have st := wf_step W (t := 0) (by decide) (by omega)
    have fi := ft_in W (t := 1) (by decide) (by omega)
    have f0' := (wf_ft W).1
    rw [show (0 : Int) + 1 = 1 by decide] at st
    have e0 : f 124 0 = lb G 0 := (Rf.2.2.2.2.1 0 (by decide) (by omega)).2.1
    have y6 : kK 124 = 21 ∧ (0 : Int) ≤ 0 ∧ 0 < kL 124 := by decide
    simp only
    unfold M_used_L44 M_used_j75 M_start
    rw [if_pos kK_121, Rf.2.1, if_neg (by omega), if_pos kK_121, if_neg (by omega), e6, if_pos y6, ob_some, e0, M_mayGo_ok Rf W t0 (by omega), ob_some, show w32 (t + 1) = t + 1 by unfold w32; omega]
    cases hgo : goB G (ouB ob) t (lb G 0) 0
    · rw [if_pos (by decide)]
      exact ⟨f, rfl, Jf, fun u u0 u1 => (hTa u u0 u1).trans ⟨Or.inl, fun z => z.elim id (fun y => absurd y.1 Bool.false_ne_true)⟩⟩
    · have hs := (goB_spec hgo).1
      have f2' := root_item W (i := 0) (j := n) t0 (show t < nT G by omega) hs (by decide) l2 l3
      have grr := gr_top I t0 (show t < nT G by omega) l2 l3
      have hfr := fr_max W f2'
      have hmu := (mu_in W f2').2
      have hcv := (cov_in f2').2
      obtain ⟨g6, x6, J6, b6⟩ := meetsHost_ok (e := d - 2) (Bd := 1000) I Q8 (by omega) (meets_spec I Q8 (d - 2)) t0 (show t < nT G by omega) hs (show (0 : Int) ≤ 0 by decide) l2 l3 (by omega) (by omega) (by omega) Rf Jf.2.1 Jf.2.2.1 Jf.2.2.2.2.1
      rw [if_neg (by decide), e34]
      unfold M_meetsHost
      rw [show d - 1 = d - 2 + 1 by omega, x6, ob_some]
      refine ⟨g6, rfl, JM_tr Jf J6, fun u u0 u1 => (b6 u u0 u1).trans ?_⟩
      rw [hTa u u0 u1]
      exact ⟨fun z => z.elim Or.inl (fun y => Or.inr ⟨rfl, y⟩), fun z => z.elim Or.inl (fun y => Or.inr y.2)⟩) (by
    intro f Jf
    have Rf := RepM_4 Rb Jf.1
    simp only
    unfold M_used_L44
    rw [if_pos kK_121, Rf.2.1, if_pos (by omega)])
  have F2 : Lk2 h g2 := ((F.tr (Lk.of144 Da)).two.tr Fb.lk2).tr J2.1.lk2
  have p8 : (((2 ^ (8 : Int).toNat : Nat)) : Int) = 256 := by decide
  have u45 : g2 121 45 = f0 (sumV G ob n row) := by
    have U2 := J2.2.2.2.2.1
    have fi := f0_in (sumV G ob n row)
    refine bit_ext (n := 8) (by decide) (by decide) U2.1 (by rw [p8]; exact U2.2) fi.1 (by rw [p8]; exact fi.2) (fun u u0 u1 => ?_)
    have e : bit (g2 121 45) u = 1 ↔ bit (f0 (sumV G ob n row)) u = 1 := by
      rw [b2 u u0 u1]
      refine Iff.trans ?_ (use_sum I Qn l2 l3 u0 u1).symm
      unfold UH
      constructor
      · rintro (z | ⟨t, ht, z⟩)
        · exact False.elim z
        · exact ⟨by omega, t, ht, z⟩
      · rintro ⟨-, t, ht, z⟩
        exact Or.inr ⟨t, ht, z⟩
    rcases bit_z (x := g2 121 45) (t := u) U2.1 (by have := U2.2; omega) u0 (by omega) with z | z
    · rcases bit_z (x := f0 (sumV G ob n row)) (t := u) fi.1 (by omega) u0 (by omega) with y | y
      · rw [z, y]
      · rw [e.mpr y, y]
    · rw [z, e.mp z]
  rw [x2, ob_some]
  have hV : useV G ob n row w = if w = 0 then f0 (sumV G ob n row) else f1 (sumV G ob n row) := by
    unfold useV; rw [if_neg (show ¬ (w < 0 ∨ 1 < w) by omega)]
  rw [hV]
  by_cases hw0 : w = 0
  · unfold M_used_j89
    rw [if_pos hw0, if_pos hw0, if_pos kK_121, u45]
    exact ⟨g2, rfl, F2⟩
  rw [if_neg hw0, if_neg hw0]
  have sz := (sumV_z (ob := ob) (row := row) I l2 l3).1
  by_cases hr : capN (stN G (ouB ob) row n) ≤ 0
  · have z := sz.mpr (cap_le0.mp hr)
    unfold M_used_j89
    rw [if_pos hr, if_pos rfl, if_pos kK_121, u45, z]
    exact ⟨g2, rfl, F2⟩
  · have rd : stN G (ouB ob) row n ≠ 0 := fun z => hr (cap_le0.mpr z)
    rw [if_neg hr, if_neg (by decide)]
    have B2 := BM_lk2 B F2
    obtain ⟨g3, x3, F3⟩ := or_loop (body := fun q => M_used_L99 d 121 q.1 q.2.1 q.2.2) (f := fun t => decide (stN G (ouB (i_or ob (i_shl 1 t))) row n = 0)) (k := (nT G).toNat) (x0 := g2) (fun f => Lk2 h f) (by omega) F2 (by
      intro acc t f t0 t1 ha Ff
      have Bf := BM_lk2 B Ff
      obtain ⟨f', xf, Ff'⟩ := M_without_ok Bf (d := d - 1) (by omega) t
      rw [if_pos ⟨t0, by omega⟩] at xf
      have hin := orF_in (fun t => decide (stN G (ouB (i_or ob (i_shl 1 t))) row n = 0)) t.toNat (by omega)
      have hp : 2 ^ t.toNat ≤ 2 ^ 8 := Nat.pow_le_pow_right (by decide) (by omega)
      refine ⟨f', ?_, Ff.tr Ff'.two⟩
      simp only
      unfold M_used_L99 M_used_j128
      rw [if_pos kK_121, (bm_X Bf).1, if_neg (by omega), xf, ob_some, show w32 (t + 1) = t + 1 by unfold w32; omega]
      simp only [shw_0]
      congr 3
      show _ = if decide (stN G (ouB (i_or ob (i_shl 1 (t.toNat : Int)))) row n = 0) then _ else _
      rw [show ((t.toNat : Nat) : Int) = t by omega, ← ha]
      by_cases z : stN G (ouB (i_or ob (i_shl 1 t))) row n = 0
      · rw [if_pos z]; simp [z]
      · rw [if_neg z, i_or_0 (by omega) (by generalize 2 ^ t.toNat = m at *; omega)]; simp [z]) (by
      intro acc f Ff
      have Bf := BM_lk2 B Ff
      simp only
      unfold M_used_L99
      rw [if_pos kK_121, (bm_X Bf).1, if_pos (by omega)])
    rw [x3, ob_some]
    refine ⟨g3, ?_, F3⟩
    have ef : orF (fun t => decide (stN G (ouB (i_or ob (i_shl 1 t))) row n = 0)) (nT G).toNat = f1 (sumV G ob n row) := by
      have hin := orF_in (fun t => decide (stN G (ouB (i_or ob (i_shl 1 t))) row n = 0)) (nT G).toNat (by omega)
      have hp : 2 ^ (nT G).toNat ≤ 2 ^ 8 := Nat.pow_le_pow_right (by decide) (by omega)
      have fi := f1_in (sumV G ob n row)
      refine bit_ext (n := 8) (by decide) (by decide) hin.1 (by rw [p8]; generalize 2 ^ (nT G).toNat = m at *; omega) fi.1 (by rw [p8]; exact fi.2) (fun u u0 u1 => ?_)
      have hb := orF_bit (fun t => decide (stN G (ouB (i_or ob (i_shl 1 t))) row n = 0)) u0 (by omega) (nT G).toNat (by omega)
      have ht := ((sumV_t (row := row) I o.1 o.2 l2 l3 u0 u1).2 (fun z => rd (sz.mp z))).2
      have e : bit (orF (fun t => decide (stN G (ouB (i_or ob (i_shl 1 t))) row n = 0)) (nT G).toNat) u = 1 ↔ bit (f1 (sumV G ob n row)) u = 1 := by
        rw [hb, ht, decide_eq_true_iff]
        refine ⟨fun z => z.2, fun z => ⟨?_, z⟩⟩
        refine Classical.byContradiction (fun hu => rd ?_)
        rw [← z]
        apply (stN_ou W ?_ l2 l3).symm
        intro t t0 t1
        unfold ouB
        rw [bit_or1 o.1 (by omega) u0 (by omega) t0 (by omega), if_neg (by omega)]
      rcases bit_z (x := orF (fun t => decide (stN G (ouB (i_or ob (i_shl 1 t))) row n = 0)) (nT G).toNat) (t := u) hin.1 (by generalize 2 ^ (nT G).toNat = m at *; omega) u0 (by omega) with z | z
      · rcases bit_z (x := f1 (sumV G ob n row)) (t := u) fi.1 (by omega) u0 (by omega) with y | y
        · rw [z, y]
        · rw [e.mpr y, y]
      · rw [z, e.mp z]
    rw [ef]
end
