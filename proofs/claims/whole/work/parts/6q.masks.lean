/-! the class: masks of sentences -/
def mb (x : Int) (c : Nat) : Bool := (i64 x).toBitVec.getLsbD c
theorem mb_or (x y : Int) (c : Nat) : mb (l_or x y) c = (mb x c || mb y c) := by
  unfold mb l_or
  rw [i64_of, Int64.toBitVec_or, BitVec.getLsbD_or]
theorem mb_and (x y : Int) (c : Nat) : mb (l_and x y) c = (mb x c && mb y c) := by
  unfold mb l_and
  rw [i64_of, Int64.toBitVec_and, BitVec.getLsbD_and]
theorem mb_0 (c : Nat) : mb 0 c = false := by
  unfold mb
  rw [show (i64 0).toBitVec = 0#64 from rfl, BitVec.getLsbD_zero]
theorem mb_shl0 : ∀ s : Fin 64, ∀ c : Fin 64, mb (l_shl 1 ((s.val : Nat) : Int)) c.val = decide (c.val = s.val) := by decide +kernel
theorem mb_shl {k : Int} (k0 : 0 ≤ k) (k1 : k < 64) {c : Nat} (hc : c < 64) : mb (l_shl 1 k) c = decide ((c : Int) = k) := by
  have := mb_shl0 ⟨k.toNat, by omega⟩ ⟨c, hc⟩
  simp only at this
  rw [show ((k.toNat : Nat) : Int) = k by omega] at this
  rw [this]
  apply decide_eq_decide.mpr
  omega
def m1 (k : Int) : Int := if k < 64 then w64 (l_shl 1 k - 1) else -1
theorem mb_10 : ∀ s : Fin 65, ∀ c : Fin 64, mb (m1 ((s.val : Nat) : Int)) c.val = decide (c.val < s.val) := by decide +kernel
theorem mb_1 {k : Int} (k0 : 0 ≤ k) (k1 : k ≤ 64) {c : Nat} (hc : c < 64) : mb (m1 k) c = decide ((c : Int) < k) := by
  have := mb_10 ⟨k.toNat, by omega⟩ ⟨c, hc⟩
  simp only at this
  rw [show ((k.toNat : Nat) : Int) = k by omega] at this
  rw [this]
  apply decide_eq_decide.mpr
  omega
theorem sh63 {t : Int} (t0 : 0 ≤ t) (t1 : t < 64) : (((i32 t).toInt64 &&& 63).toBitVec.smod 64).toNat = t.toNat := by
  have : ∀ k : Fin 64, (((i32 (k.val : Int)).toInt64 &&& 63).toBitVec.smod 64).toNat = k.val := by decide +kernel
  have := this ⟨t.toNat, by omega⟩
  simp only at this
  rwa [show ((t.toNat : Nat) : Int) = t by omega] at this
theorem and1_64 (z : Int64) : (z &&& 1).toInt = if z.toBitVec.getLsbD 0 then 1 else 0 := by
  have hn : (z &&& 1).toBitVec.toNat = z.toBitVec.toNat % 2 := by
    rw [Int64.toBitVec_and, BitVec.toNat_and]
    exact Nat.and_one_is_mod _
  show (z &&& 1).toBitVec.toInt = _
  rw [BitVec.toInt_eq_toNat_cond, hn, if_pos (by omega)]
  have hb : z.toBitVec.getLsbD 0 = decide (z.toBitVec.toNat % 2 = 1) := by
    show z.toBitVec.toNat.testBit 0 = _
    rw [Nat.testBit_zero]
  rw [hb]
  rcases Nat.mod_two_eq_zero_or_one z.toBitVec.toNat with q | q
  · rw [q]; rfl
  · rw [q]; rfl
theorem mb_get {x : Int} {c : Int} (c0 : 0 ≤ c) (c1 : c < 64) : l_and (l_shr x c) 1 = if mb x c.toNat then 1 else 0 := by
  unfold l_and l_shr
  rw [i64_of, show i64 1 = 1 by decide, and1_64]
  congr 1
  rw [Int64.toBitVec_shiftRight]
  show (BitVec.getLsbD (BitVec.sshiftRight' _ _) 0 = true) = _
  unfold BitVec.sshiftRight' mb
  rw [sh63 c0 c1, BitVec.getLsbD_sshiftRight]
  simp only [show ¬ (64 : Nat) ≤ 0 by decide, decide_false, Bool.not_false, Bool.true_and, Nat.zero_add]
  rw [Nat.add_zero, if_pos (by omega)]
/-- the reckoning -/
def agM (k : Int) (hv : Int → Int) : Ag := fun s x y => if s = 0 then l_or x y else if s = 1 then l_and x y else if s = 2 then y else if s = 3 then hv (26 * x + y) else m1 k
theorem agM_law {k : Int} {hv : Int → Int} (hr : ∀ s, 0 ≤ s → s < 208 → r64 (hv s)) : AgL (agM k hv) r64 := by
  refine ⟨r64_0, ?_, ?_, ?_, ?_, ?_, ?_, ?_, ?_, ?_⟩
  · show r64 (m1 k)
    unfold m1
    split
    · exact w64_r _
    · unfold r64; omega
  · intro i l i0 i1 l0 l1
    exact hr _ (by omega) (by omega)
  · intro x y _ _
    exact ⟨show r64 (l_or x y) from r64_of _, show r64 (l_and x y) from r64_of _⟩
  · intro t x _ _ hx; exact hx
  · intro x y _ _
    show l_or x y = l_or y x
    unfold l_or; rw [Int64.or_comm]
  · intro x y z _ _ _
    show l_or (l_or x y) z = l_or x (l_or y z)
    unfold l_or; rw [i64_of, i64_of, Int64.or_assoc]
  · intro x hx
    show l_or x 0 = x
    unfold l_or
    rw [show i64 0 = 0 by decide, Int64.or_zero]
    exact i64_t hx
  · intro x _
    refine ⟨?_, ?_⟩
    · show l_and x 0 = 0
      unfold l_and; rw [show i64 0 = 0 by decide, Int64.and_zero]; rfl
    · show l_and 0 x = 0
      unfold l_and; rw [show i64 0 = 0 by decide, Int64.zero_and]; rfl
  · intro t _ _; rfl
theorem agM_R {h : Hp} {o k : Int} (e3 : h o 3 = 18) (h0 : h 18 0 = k) (h2 : h 18 2 = 20) (sz8 : h o 1 ≤ 8) : AgR h o (agM k (h 20)) r64 := by
  have k18 : kK 18 = 5 := by decide
  have n2 : ¬ kK 18 = 2 := by decide
  have n7 : ¬ kK 18 = 7 := by decide
  unfold AgR
  rw [e3]
  refine ⟨?_, ?_, ?_, ?_⟩
  · intro x y _ _
    unfold Al_either Al_both
    rw [if_neg n2, if_neg n7, if_pos k18, if_neg n2, if_neg n7, if_pos k18]
    exact ⟨rfl, rfl⟩
  · intro t x _ _ _
    unfold Al_placed
    rw [if_neg n2, if_neg n7, if_pos k18]; rfl
  · intro i l i0 i1 l0 l1
    have ew : w32 (w32 (i * 26) + l) = 26 * i + l := by unfold w32; omega
    have y : kK 20 = 22 ∧ (0 : Int) ≤ 26 * i + l ∧ 26 * i + l < kL 20 := ⟨by decide, by omega, by rw [show kL 20 = 208 by decide]; omega⟩
    unfold Al_letterAt Ms_letterAt
    rw [if_neg n2, if_neg n7, if_pos k18, ew, if_neg (by omega), if_pos k18, h2, if_pos y.1, if_pos y.2.2, if_pos y]
    rfl
  · unfold Al_one Ms_one
    rw [if_neg n2, if_neg n7, if_pos k18, if_pos k18, h0]
    rfl
/-- a sentence of those that are masked: its bit says whether there are ways -/
theorem mask_hom {G : Gm} {ou : Int → Bool} {row : Int → Int} {sz k : Int} {hv : Int → Int} {S : SV} (W : WF G) (hr : ∀ s, 0 ≤ s → s < 208 → r64 (hv s)) (Q : AEq G ou (agM k hv) r64 sz S) {c : Nat} (hc : (c : Int) < k) (k1 : k ≤ 64) (hL : ∀ i l, 0 ≤ i → i < sz → 0 ≤ l → l < 26 → mb (hv (26 * i + l)) c = decide (row i = l)) :
    ∀ (m : Nat) (half node i j p q : Int), itm G half node i j p q → j ≤ sz → mu G half node i j p q < m → (mb (S half node i j p q) c = true ↔ wW G ou row half node i j p q ≠ 0) := by
  refine hom (ou' := ou) (R := fun x n => mb x c = true ↔ n ≠ 0) W (agM_law hr) Q (fun t _ _ h => h) ?_ ?_ ?_ ?_ ?_ ?_
  · rw [mb_0]; simp
  · show mb (m1 k) c = true ↔ _
    rw [mb_1 (by omega) k1 (by omega)]
    simp [hc]
  · intro i l i0 i1 l0 l1
    show mb (hv (26 * i + l)) c = true ↔ _
    rw [hL i l i0 i1 l0 l1]
    by_cases z : row i = l
    · simp [z]
    · simp [z]
  · intro x y m n _ _ hx hy
    show mb (l_or x y) c = true ↔ _
    rw [mb_or, Bool.or_eq_true, hx, hy]
    omega
  · intro x y m n _ _ hx hy
    show mb (l_and x y) c = true ↔ _
    rw [mb_and, Bool.and_eq_true, hx, hy, Nat.mul_ne_zero_iff]
  · intro t x n t0 t1 ho _ hx
    rw [ho]; exact hx
section
variable {h : Hp} {P ob n : Int} {G : Gm} {row : Int → Int}
/-- the chart of masks, filled and asked for whole sentences -/
theorem fillM (B : BX h P G ob n row) {m : Int} (m0 : 0 ≤ m) (m8 : m ≤ 8) {k : Int} (k1 : k ≤ 64) (h0 : h 18 0 = k) (hr : ∀ s, 0 ≤ s → s < 208 → r64 (h 20 s)) : ∃ h' v, Ch_fill 38 P ob m 18 h = some h' ∧ ChF 38 h h' ∧ Ch_atStart 38 m h' = some v ∧ ∀ (c : Nat) (rw' : Int → Int), (c : Int) < k → (∀ i l, 0 ≤ i → i < m → 0 ≤ l → l < 26 → mb (h 20 (26 * i + l)) c = decide (rw' i = l)) → (mb v c = true ↔ stN G (ouB ob) rw' m ≠ 0) := by
  have W := bx_W B
  have o := bx_ob B
  have L := agM_law (k := k) hr
  have E := Ev_mk B (o := 38) (sz := m) (al := 18) (b := ob) (Or.inr rfl) o.2.1 o.2.2 m0 m8 L (by
    intro h' hc e1 e3
    have e20 : h' 20 = h 20 := funext fun s => hc 20 s (by decide) (by decide) (by decide)
    rw [← e20]
    exact agM_R e3 (by rw [hc 18 0 (by decide) (by decide) (by decide)]; exact h0) (by rw [hc 18 2 (by decide) (by decide) (by decide)]; exact sx_at (bx_sx B) (by decide)) (by omega))
  have Q := aFix_AEq (ou := ouB ob) W L m
  obtain ⟨g, e, go, gE, gT⟩ := Ch_fill_ok (Or.inr rfl) E Q (bx_G B).2.1
  have R := gE.2.1
  have C := gE.2.2.1
  have nt := wf_nt W
  have nn := wf_nn W
  have kc := (ChO_k C.1).1
  obtain ⟨g0, g1, g2, g3, g4, g5, g6, g7, g8, g9, g10, g11, g12, g13⟩ := GrO_k R.1
  have e0 : g P 0 = nT G := R.2.2.1
  have e9 : g P 9 = P + 4 := R.2.1.2.2.2.1
  have e17 : g P 17 = P + 12 := R.2.1.2.2.2.2.2.2.2.2.2.2.2.1
  refine ⟨g, ?_⟩
  unfold Ch_atStart Gr_hostsAtStart
  rw [if_pos kc, C.2.1, if_pos g0, if_pos g0, e0]
  by_cases hz : nT G = 0
  · rw [if_pos hz, ob_some]
    have : Ch_hostsOver 38 0 0 m g = some 0 := by
      unfold Ch_hostsOver
      have : loopN (fun q => Ch_hostsOver_L6 38 0 0 m g q.1 q.2) LN (0, 0) = some 0 := by
        rw [show LN = 999999 + 1 from rfl]
        unfold loopN Ch_hostsOver_L6
        simp only
        rw [if_pos kc, C.2.1, if_pos g0, e0, if_pos (by omega)]
      rw [this, ob_some]
    rw [this, ob_some]
    refine ⟨0, e, ChF_of go, rfl, fun c rw' _ _ => ?_⟩
    unfold stN
    rw [mb_0, if_pos hz]; simp
  · have st := wf_step W (t := 0) (by decide) (by omega)
    have fi := ft_in W (t := 1) (by decide) (by omega)
    have f0 := (wf_ft W).1
    rw [show (0 : Int) + 1 = 1 by decide] at st
    have kr := (wf_root W (t := 0) (by decide) (by omega)).1
    rw [f0] at kr
    have ll := (wf_lb W (n := 0) (by decide) (by omega)).1 (by omega)
    have f4 : g (P + 4) 0 = lb G 0 := (R.2.2.2.2.2.1 0 (by decide) (by omega)).2.2.1
    have y4 : kK (P + 4) = 21 ∧ (0 : Int) ≤ 0 ∧ 0 < kL (P + 4) := ⟨g4.1, by decide, by rw [g4.2]; decide⟩
    have y12 : kK (P + 12) = 21 ∧ (0 : Int) ≤ lb G 0 ∧ lb G 0 < kL (P + 12) := ⟨g12.1, ll.1, by rw [g12.2]; exact ll.2⟩
    rw [if_neg hz, e9, f4, e17, if_pos y4, if_pos y12, ob_some, Ch_hostsOver_ok gE Q gT ll.1 ll.2 (by decide) m0 (Int.le_refl _) (fun _ _ _ _ => Or.inl rfl), ob_some]
    refine ⟨_, e, ChF_of go, rfl, fun c rw' hc hL => ?_⟩
    unfold stN
    rw [if_neg hz]
    unfold aHosts wHosts
    have key := mask_hom W hr Q hc k1 hL
    apply hom_sum (R := fun x n => mb x c = true ↔ n ≠ 0) L (by rw [mb_0]; simp)
    · intro x y a b _ _ hx hy
      show mb (l_or x y) c = true ↔ _
      rw [mb_or, Bool.or_eq_true, hx, hy]
      omega
    · intro t t0 t1
      cases hg : goB G (ouB ob) t (lb G 0) 0
      · exact ⟨ag_0 L, by simp [mb_0]⟩
      · have hi := root_item W (i := 0) (j := m) t0 (show t < nT G by omega) (goB_spec hg).1 (by decide) m0 m8
        exact ⟨(Q _ _ _ _ _ _ hi (Int.le_refl _)).1, hom_item (R := fun x n => mb x c = true ↔ n ≠ 0) W key hi (Int.le_refl _)⟩
end
