/-! the class: candidates come to the masks, are read, go into a list -/
abbrev Cd : Type := Int × (Int → Int)
def hasB (L : List Cd) (c : Nat) (i l : Int) : Bool := match L[c]? with
  | some p => decide (p.2 i = l)
  | none => false
/-- the masks hold the candidates L, and of one more the letters at the places of B -/
def MkP (h : Hp) (m : Int) (L : List Cd) (r : Int → Int) (B : Int → Bool) : Prop :=
  h 18 0 = L.length ∧ L.length ≤ 64 ∧ (∀ (c : Nat) (p : Cd), L[c]? = some p → h 19 c = p.1) ∧ (∀ s, 0 ≤ s → s < 208 → r64 (h 20 s)) ∧
  (∀ i l (c : Nat), 0 ≤ i → i < m → 0 ≤ l → l < 26 → c < 64 → mb (h 20 (26 * i + l)) c = (hasB L c i l || (decide (c = L.length) && B i && decide (r i = l))))
def MkS (h : Hp) (m : Int) (L : List Cd) : Prop := MkP h m L (fun _ => 0) (fun _ => false)
theorem MkP_any {h : Hp} {m : Int} {L : List Cd} (S : MkS h m L) (r : Int → Int) : MkP h m L r (fun _ => false) := by
  obtain ⟨s1, s2, s3, s4, s5⟩ := S
  refine ⟨s1, s2, s3, s4, fun i l c a b x y z => ?_⟩
  rw [s5 i l c a b x y z]
  simp
theorem MkP_cg {h : Hp} {m : Int} {L : List Cd} {r : Int → Int} {B B' : Int → Bool} (S : MkP h m L r B) (hB : ∀ i, 0 ≤ i → i < m → B i = B' i) : MkP h m L r B' := by
  obtain ⟨s1, s2, s3, s4, s5⟩ := S
  refine ⟨s1, s2, s3, s4, fun i l c a b x y z => ?_⟩
  rw [s5 i l c a b x y z, hB i a b]
theorem MkP_eq {h h' : Hp} {m : Int} {L : List Cd} {r : Int → Int} {B : Int → Bool} (S : MkP h m L r B) (e0 : h' 18 0 = h 18 0) (e1 : ∀ s, h' 19 s = h 19 s) (e2 : ∀ s, h' 20 s = h 20 s) : MkP h' m L r B := by
  unfold MkP at S ⊢
  simp only [e0, e1, e2]
  exact S
section
variable {h : Hp} {m : Int} {L : List Cd} {r : Int → Int} {B : Int → Bool}
theorem Ms_has_ok (s2 : h 18 2 = 20) (S : MkP h m L r B) (hl : L.length < 64) (m8 : m ≤ 8) {x : Int} (x0 : 0 ≤ x) (x1 : x < m) (r0 : 0 ≤ r x) (r1 : r x < 26) : ∃ h', Ms_has 18 x (r x) h = some h' ∧ MkP h' m L r (fun i => B i || decide (i = x)) ∧ ∀ c s, c ≠ 20 → h' c s = h c s := by
  obtain ⟨q1, q2, q3, q4, q5⟩ := S
  have ew : w32 (w32 (x * 26) + r x) = 26 * x + r x := by unfold w32; omega
  have y : kK 20 = 22 ∧ (0 : Int) ≤ 26 * x + r x ∧ 26 * x + r x < kL 20 := ⟨by decide, by omega, by rw [show kL 20 = 208 by decide]; omega⟩
  have l20 : kL 20 = 208 := by decide
  unfold Ms_has
  rw [if_pos (show kK 18 = 5 by decide), q1, if_neg (by omega), ew, if_neg (by omega), s2, if_pos y.1, if_neg (by rw [l20]; omega), if_pos y]
  refine ⟨_, rfl, ⟨?_, q2, ?_, ?_, ?_⟩, fun c s hc => hput_ne1 hc⟩
  · rw [hput_ne1 (by decide)]; exact q1
  · intro c p hp; rw [hput_ne1 (by decide)]; exact q3 c p hp
  · intro s s0 s1
    by_cases hs : s = 26 * x + r x
    · rw [hs, hput_eq]; exact r64_of _
    · rw [hput_ne2 hs]; exact q4 s s0 s1
  · intro i l c i0 i1 l0 l1 hc
    by_cases he : i = x ∧ l = r x
    · obtain ⟨rfl, rfl⟩ := he
      rw [hput_eq, mb_or, q5 i (r i) c i0 i1 l0 l1 hc, mb_shl (by omega) (by omega) hc]
      by_cases hcl : c = L.length
      · simp [hcl]
      · simp [hcl, show ¬ ((c : Int) = (L.length : Int)) by omega]
    · rw [hput_ne2 (by omega), q5 i l c i0 i1 l0 l1 hc]
      by_cases hi : i = x
      · have hr : r i ≠ l := fun z => he ⟨hi, by rw [← z, hi]⟩
        simp [hr]
      · simp [hi]
theorem Ms_close_ok (s1 : h 18 1 = 19) (S : MkP h m L r B) (hl : L.length < 64) (hB : ∀ i, 0 ≤ i → i < m → B i = true) (code : Int) : ∃ h', Ms_close 18 code h = some h' ∧ MkS h' m (L ++ [(code, r)]) ∧ ∀ c s, (c ≠ 18 ∨ s ≠ 0) → c ≠ 19 → h' c s = h c s := by
  obtain ⟨q1, q2, q3, q4, q5⟩ := S
  have y : kK 19 = 21 ∧ (0 : Int) ≤ (L.length : Int) ∧ (L.length : Int) < kL 19 := ⟨by decide, by omega, by rw [show kL 19 = 64 by decide]; omega⟩
  unfold Ms_close
  rw [if_pos (show kK 18 = 5 by decide), q1, if_neg (by omega), s1, if_pos y]
  refine ⟨_, rfl, ⟨?_, ?_, ?_, ?_, ?_⟩, ?_⟩
  · rw [hput_eq, hput_ne1 (by decide), q1, List.length_append]
    simp only [List.length_singleton]
    unfold w32; omega
  · rw [List.length_append]; simp only [List.length_singleton]; omega
  · intro c p hp
    rw [hput_ne1 (by decide)]
    by_cases hc : c < L.length
    · rw [List.getElem?_append_left hc] at hp
      rw [hput_ne2 (by omega)]
      exact q3 c p hp
    · rw [List.getElem?_append_right (by omega)] at hp
      by_cases hc2 : c = L.length
      · subst hc2
        rw [Nat.sub_self] at hp
        simp at hp
        rw [hput_eq, ← hp]
      · rw [List.getElem?_eq_none (by simp; omega)] at hp
        cases hp
  · intro s a b
    rw [hput_ne1 (by decide), hput_ne1 (by decide)]
    exact q4 s a b
  · intro i l c i0 i1 l0 l1 hc
    rw [hput_ne1 (by decide), hput_ne1 (by decide), q5 i l c i0 i1 l0 l1 hc, hB i i0 i1]
    unfold hasB
    by_cases hc1 : c < L.length
    · rw [List.getElem?_append_left hc1]
      simp [show c ≠ L.length by omega]
    · rw [List.getElem?_append_right (by omega), List.getElem?_eq_none (l := L) (by omega)]
      by_cases hc2 : c = L.length
      · simp [hc2]
      · rw [List.getElem?_eq_none (by simp; omega)]
        simp [hc2]
  · intro c s a b
    rw [show ∀ (g : Hp) (v : Int), hput g 18 0 v c s = g c s from fun g v => by
      rcases a with a | a
      · exact hput_ne1 a
      · exact hput_ne2 a, hput_ne1 b]
theorem JA_fillJ_ok {a v : Int} (ha : kK a = 22) (h3 : kL a ≤ 100000) (h0 : 0 ≤ kL a) : ∃ h', JA_fillJ a v h = some h' ∧ ∀ c s, h' c s = if c = a ∧ 0 ≤ s ∧ s < kL a then v else h c s := by
  obtain ⟨q, e, p⟩ := loop_ok (body := fun q => JA_fillJ_L6 a v (kL a) q.1 q.2) (fun s => 0 ≤ s.1 ∧ s.1 ≤ kL a ∧ ∀ c k, s.2 c k = if c = a ∧ 0 ≤ k ∧ k < s.1 then v else h c k) (fun s => (kL a - s.1).toNat) (fun g => ∀ c s, g c s = if c = a ∧ 0 ≤ s ∧ s < kL a then v else h c s) (by
    rintro ⟨x, g⟩ ⟨x0, x1, hg⟩
    simp only at x0 x1 hg
    unfold JA_fillJ_L6
    by_cases hx : kL a ≤ x
    · right
      refine ⟨g, by simp only; rw [if_pos hx], ?_⟩
      rw [show kL a = x by omega]
      exact hg
    · left
      refine ⟨(x + 1, hput g a x v), by simp only; rw [if_neg hx, if_pos ⟨ha, by omega, by omega⟩, show w32 (x + 1) = x + 1 by unfold w32; omega], ⟨by simp only; omega, by simp only; omega, ?_⟩, by simp only; omega⟩
      intro c k
      simp only
      unfold hput
      by_cases hc : c = a ∧ k = x
      · rw [if_pos hc, if_pos ⟨hc.1, by omega, by omega⟩]
      · rw [if_neg hc, hg]
        by_cases hd : c = a ∧ 0 ≤ k ∧ k < x
        · rw [if_pos hd, if_pos ⟨hd.1, hd.2.1, by omega⟩]
        · rw [if_neg hd, if_neg]
          rintro ⟨z1, z2, z3⟩
          exact hd ⟨z1, z2, by have : ¬ k = x := fun y => hc ⟨z1, y⟩
                               omega⟩) LN (0, h) ⟨Int.le_refl _, h0, fun c k => by rw [if_neg (by simp only; omega)]⟩ (by unfold LN; simp only; omega)
  refine ⟨q, ?_, p⟩
  unfold JA_fillJ
  rw [if_pos ha, e, ob_some]
theorem Ms_clear_ok (s2 : h 18 2 = 20) (m : Int) (m8 : m ≤ 8) : ∃ h', Ms_clear 18 h = some h' ∧ MkS h' m [] ∧ ∀ c s, (c ≠ 18 ∨ s ≠ 0) → c ≠ 20 → h' c s = h c s := by
  have l20 : kL 20 = 208 := by decide
  unfold Ms_clear
  rw [if_pos (show kK 18 = 5 by decide)]
  simp only
  rw [hput_ne2 (by decide), s2]
  obtain ⟨g, e, p⟩ := JA_fillJ_ok (h := hput h 18 0 0) (a := 20) (v := 0) (by decide) (by rw [l20]; decide) (by rw [l20]; decide)
  rw [e, ob_some]
  refine ⟨g, rfl, ⟨?_, by simp, ?_, ?_, ?_⟩, ?_⟩
  · rw [p, if_neg (by decide), hput_eq]; rfl
  · intro c p hp; simp at hp
  · intro s s0 s1
    rw [p, if_pos ⟨rfl, s0, by rw [l20]; exact s1⟩]
    exact r64_0
  · intro i l c i0 i1 l0 l1 hc
    rw [p, if_pos ⟨rfl, by omega, by rw [l20]; omega⟩, mb_0]
    unfold hasB
    simp
  · intro c s a b
    rw [p, if_neg (fun z => b z.1)]
    rcases a with a | a
    · exact hput_ne1 a
    · exact hput_ne2 a
end
/-! lists of what was found -/
def LsI (h : Hp) (b : Int) (D : List Int) : Prop := h 92 b = D.length ∧ D.length ≤ 256 ∧ ∀ (k : Nat) (v : Int), D[k]? = some v → h (86 + b) k = v
noncomputable def rdC (G : Gm) (ob m : Int) (p : Cd) : Bool := decide (stN G (ouB ob) p.2 m ≠ 0)
section
variable {h : Hp} {P ob n : Int} {G : Gm} {row : Int → Int}
/-- what a reading changes -/
def RdF (b : Int) (h h' : Hp) : Prop := ∀ c s, (c ≠ 38 ∨ 4 ≤ s) → c ≠ 53 → c ≠ 54 → (c ≠ 18 ∨ s ≠ 0) → c ≠ 19 → c ≠ 20 → (c ≠ 92 ∨ s ≠ b) → c ≠ 86 + b → h' c s = h c s
theorem RdF.rf {b : Int} : RdF b h h := fun _ _ _ _ _ _ _ _ _ _ => rfl
theorem RdF.tr {b : Int} {h' h'' : Hp} (x : RdF b h h') (y : RdF b h' h'') : RdF b h h'' := fun c s a1 a2 a3 a4 a5 a6 a7 a8 => by rw [y c s a1 a2 a3 a4 a5 a6 a7 a8, x c s a1 a2 a3 a4 a5 a6 a7 a8]
theorem RdF.vol {b : Int} (b0 : 0 ≤ b) (b1 : b < 6) {h' : Hp} (F : RdF b h h') : Vol h h' := by
  intro c s hv
  have vb : ∀ s, volB (86 + b) s = true := by
    intro s
    rcases (show b = 0 ∨ b = 1 ∨ b = 2 ∨ b = 3 ∨ b = 4 ∨ b = 5 by omega) with z | z | z | z | z | z <;> subst z <;> unfold volB <;> simp
  refine F c s (vol_ns hv (fun s hs => by unfold volB; simp [hs])) (vol_ne hv (fun s => by unfold volB; simp)) (vol_ne hv (fun s => by unfold volB; simp)) ?_ (vol_ne hv (fun s => by unfold volB; simp)) (vol_ne hv (fun s => by unfold volB; simp)) (Or.inl (vol_ne hv (fun s => by unfold volB; simp))) (vol_ne hv vb)
  by_cases e : c = 18
  · right
    intro hs
    rw [e, hs] at hv
    exact absurd hv (by decide)
  · exact Or.inl e
theorem listRead_ok (X : BX h P G ob n row) {b m : Int} (b0 : 0 ≤ b) (b1 : b < 6) (m0 : 0 ≤ m) (m8 : m ≤ 8) {L : List Cd} {D : List Int} (S : MkS h m L) (I : LsI h b D) (hd : D.length + L.length ≤ 256) :
    ∃ h', X_listRead 0 b m h = some h' ∧ RdF b h h' ∧ MkS h' m [] ∧ LsI h' b (D ++ (L.filter (rdC G ob m)).map Prod.fst) := by
  have k0 : kK 0 = 10 := by decide
  have k18 : kK 18 = 5 := by decide
  have T := bx_sx X
  have o := bx_ob X
  have t7 : h 0 7 = 18 := sx_at T (by decide)
  unfold X_listRead
  rw [if_pos k0, t7, if_pos k18, S.1]
  by_cases hz : (L.length : Int) = 0
  · have : L = [] := List.eq_nil_of_length_eq_zero (by omega)
    subst this
    rw [if_pos hz]
    refine ⟨h, rfl, RdF.rf, S, ?_⟩
    simpa using I
  · obtain ⟨g, v, e, gF, ev, hv⟩ := fillM X m0 m8 (k := L.length) (by have := S.2.1; omega) S.1 S.2.2.2.1
    have V1 := gF.vol (Or.inr rfl)
    have T1 := ShX_vol V1 T
    have g18 : ∀ s, g 18 s = h 18 s := fun s => gF 18 s (Or.inl (by decide)) (by decide) (by decide)
    have g19 : ∀ s, g 19 s = h 19 s := fun s => gF 19 s (Or.inl (by decide)) (by decide) (by decide)
    have g20 : ∀ s, g 20 s = h 20 s := fun s => gF 20 s (Or.inl (by decide)) (by decide) (by decide)
    have S1 : MkS g m L := MkP_eq S (g18 0) g19 g20
    have I1 : LsI g b D := by
      obtain ⟨i1, i2, i3⟩ := I
      refine ⟨by rw [gF 92 b (Or.inl (by decide)) (by decide) (by decide)]; exact i1, i2, fun k w hk => ?_⟩
      rw [gF (86 + b) k (Or.inl (by omega)) (by omega) (by omega)]
      exact i3 k w hk
    rw [if_neg hz, bx_15 X, if_pos (bx_kP X), sx_at T (show (0, 9, 38) ∈ shX by decide), if_pos (by decide), o.1, e, ob_some, sx_at T1 (show (0, 9, 38) ∈ shX by decide), if_pos (by decide), ev, ob_some]
    have hrd : ∀ (c : Nat) (p : Cd), L[c]? = some p → mb v c = rdC G ob m p := by
      intro c p hp
      have hcl : c < L.length := by
        rcases Nat.lt_or_ge c L.length with z | z
        · exact z
        · rw [List.getElem?_eq_none z] at hp; cases hp
      have := hv c p.2 (by omega) (by
        intro i l i0 i1 l0 l1
        rw [S.2.2.2.2 i l c i0 i1 l0 l1 (by have := S.2.1; omega)]
        unfold hasB
        rw [hp]
        simp)
      unfold rdC
      cases hm : mb v c
      · rw [hm] at this
        symm
        apply decide_eq_false
        intro z
        exact Bool.false_ne_true (this.mpr z)
      · symm
        exact decide_eq_true (this.mp hm)
    have fit : ∀ k, k ≤ L.length → (((L.take k).filter (rdC G ob m)).map Prod.fst).length ≤ k := by
      intro k hk
      rw [List.length_map]
      exact Nat.le_trans (List.length_filter_le _ _) (by rw [List.length_take]; omega)
    obtain ⟨g2, e2, F2, I2⟩ := loop_ok (body := fun q => X_listRead_L46 0 b v q.1 q.2) (fun s => 0 ≤ s.1 ∧ s.1 ≤ L.length ∧ (∀ c k, (c ≠ 92 ∨ k ≠ b) → c ≠ 86 + b → s.2 c k = g c k) ∧ LsI s.2 b (D ++ ((L.take s.1.toNat).filter (rdC G ob m)).map Prod.fst)) (fun s => (L.length - s.1).toNat) (fun g2 => (∀ c k, (c ≠ 92 ∨ k ≠ b) → c ≠ 86 + b → g2 c k = g c k) ∧ LsI g2 b (D ++ (L.filter (rdC G ob m)).map Prod.fst)) (by
      rintro ⟨c, f⟩ ⟨c0, c1, hF, hI⟩
      simp only at c0 c1 hF hI
      have f0 : ∀ s, f 0 s = g 0 s := fun s => hF 0 s (Or.inl (by decide)) (by omega)
      have f18 : ∀ s, f 18 s = g 18 s := fun s => hF 18 s (Or.inl (by decide)) (by omega)
      have f7 : f 0 7 = 18 := by rw [f0]; exact sx_at T1 (by decide)
      have f14 : f 0 14 = 92 := by rw [f0]; exact sx_at T1 (by decide)
      have f13 : f 0 13 = 85 := by rw [f0]; exact sx_at T1 (by decide)
      have f181 : f 18 1 = 19 := by rw [f18]; exact sx_at T1 (by decide)
      have f85 : f 85 b = 86 + b := by
        rw [hF 85 b (Or.inl (by decide)) (by omega)]
        rcases (show b = 0 ∨ b = 1 ∨ b = 2 ∨ b = 3 ∨ b = 4 ∨ b = 5 by omega) with z | z | z | z | z | z <;> subst z <;> exact sx_at T1 (by decide)
      simp only
      unfold X_listRead_L46 X_listRead_j114
      rw [if_pos k0, f7, if_pos k18, f18, S1.1]
      by_cases hc : (L.length : Int) ≤ c
      · right
        refine ⟨f, by rw [if_pos hc], hF, ?_⟩
        rw [List.take_of_length_le (by omega)] at hI
        exact hI
      · left
        obtain ⟨p, hp⟩ : ∃ p, L[c.toNat]? = some p := ⟨L[c.toNat]'(by omega), List.getElem?_eq_getElem (by omega)⟩
        have hm := hrd c.toNat p hp
        have ht : L.take (c + 1).toNat = L.take c.toNat ++ [p] := by
          rw [show (c + 1).toNat = c.toNat + 1 by omega, List.take_succ, hp]; rfl
        rw [if_neg hc, mb_get c0 (by have := S.2.1; omega), hm, show w32 (c + 1) = c + 1 by unfold w32; omega]
        cases hr : rdC G ob m p
        · rw [if_neg (by decide)]
          refine ⟨(c + 1, f), rfl, ⟨by simp only; omega, by simp only; omega, hF, ?_⟩, by simp only; omega⟩
          simp only
          rw [ht, List.filter_append, List.filter_cons_of_neg (by rw [hr]; decide)]
          simpa using hI
        · have hlen := fit c.toNat (by omega)
          obtain ⟨i1, i2, i3⟩ := hI
          have hdl : (D ++ ((L.take c.toNat).filter (rdC G ob m)).map Prod.fst).length < 256 := by
            rw [List.length_append]; omega
          generalize hDD : D ++ ((L.take c.toNat).filter (rdC G ob m)).map Prod.fst = DD at *
          have y14 : kK 92 = 21 ∧ (0 : Int) ≤ b ∧ b < kL 92 := ⟨by decide, b0, by rw [show kL 92 = 6 by decide]; omega⟩
          have y13 : kK 85 = 24 ∧ (0 : Int) ≤ b ∧ b < kL 85 := ⟨by decide, b0, by rw [show kL 85 = 6 by decide]; omega⟩
          have y19 : kK 19 = 21 ∧ (0 : Int) ≤ c ∧ c < kL 19 := ⟨by decide, c0, by rw [show kL 19 = 64 by decide]; have := S.2.1; omega⟩
          have yb : kK (86 + b) = 21 ∧ (0 : Int) ≤ (DD.length : Int) ∧ (DD.length : Int) < kL (86 + b) := by
            have : kK (86 + b) = 21 ∧ kL (86 + b) = 256 := by
              rcases (show b = 0 ∨ b = 1 ∨ b = 2 ∨ b = 3 ∨ b = 4 ∨ b = 5 by omega) with z | z | z | z | z | z <;> subst z <;> decide
            exact ⟨this.1, by omega, by rw [this.2]; omega⟩
          have f19 : f 19 c = p.1 := by
            rw [hF 19 c (Or.inl (by decide)) (by omega)]
            have := S1.2.2.1 c.toNat p hp
            rwa [show ((c.toNat : Nat) : Int) = c by omega] at this
          rw [if_pos (by decide), f14, if_pos y14, i1, if_neg (by omega), f13, if_pos y13, f181, if_pos y19, f85, if_pos yb, f19]
          simp only
          rw [hput_ne1 (show (0 : Int) ≠ 86 + b by omega), f14, if_pos y14, hput_ne1 (show (92 : Int) ≠ 86 + b by omega), i1]
          refine ⟨_, rfl, ⟨by simp only; omega, by simp only; omega, ?_, ?_⟩, by simp only; omega⟩
          · intro a s h1 h2
            simp only
            rw [show ∀ (g : Hp) (v : Int), hput g 92 b v a s = g a s from fun g v => by
              rcases h1 with h1 | h1
              · exact hput_ne1 h1
              · exact hput_ne2 h1, hput_ne1 h2]
            exact hF a s h1 h2
          · simp only
            rw [ht, List.filter_append, List.filter_cons_of_pos (by rw [hr]), List.filter_nil, List.map_append, ← List.append_assoc, hDD]
            refine ⟨?_, ?_, ?_⟩
            · rw [hput_eq, List.length_append]
              simp only [List.map_cons, List.map_nil, List.length_singleton]
              unfold w32; omega
            · rw [List.length_append]; simp only [List.map_cons, List.map_nil, List.length_singleton]; omega
            · intro k w hk
              rw [hput_ne1 (show 86 + b ≠ 92 by omega)]
              by_cases hkl : k < DD.length
              · rw [List.getElem?_append_left hkl] at hk
                rw [hput_ne2 (by omega)]
                exact i3 k w hk
              · rw [List.getElem?_append_right (by omega)] at hk
                by_cases hk2 : k = DD.length
                · subst hk2
                  rw [Nat.sub_self] at hk
                  simp at hk
                  rw [hput_eq, ← hk]
                · rw [List.getElem?_eq_none (by simp; omega)] at hk
                  cases hk) LN (0, g) ⟨Int.le_refl _, by simp only; omega, fun _ _ _ _ => rfl, by simpa using I1⟩ (by unfold LN; simp only; have := S.2.1; omega)
    have j7 : g2 0 7 = 18 := by rw [F2 0 7 (Or.inl (by decide)) (by omega)]; exact sx_at T1 (by decide)
    rw [e2, ob_some, j7, if_pos k18]
    obtain ⟨g3, e3, S3, F3⟩ := Ms_clear_ok (h := g2) (by rw [F2 18 2 (Or.inl (by decide)) (by omega)]; exact sx_at T1 (by decide)) m m8
    rw [e3, ob_some]
    refine ⟨g3, rfl, ?_, S3, ?_⟩
    · intro c s a1 a2 a3 a4 a5 a6 a7 a8
      rw [F3 c s a4 a6, F2 c s a7 a8, gF c s a1 a2 a3]
    · obtain ⟨i1, i2, i3⟩ := I2
      refine ⟨by rw [F3 92 b (Or.inl (by decide)) (by decide)]; exact i1, i2, fun k w hk => ?_⟩
      rw [F3 (86 + b) k (Or.inl (by omega)) (by omega)]
      exact i3 k w hk
end
