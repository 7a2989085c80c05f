/-! the class: a letter and a branch are unfolded -/
theorem app1 {β : Type} {ls : List β} {e x : β} {i : Nat} : (ls ++ [e])[i]? = some x ↔ ls[i]? = some x ∨ (i = ls.length ∧ x = e) := by
  by_cases hl : i < ls.length
  · rw [List.getElem?_append_left hl]
    exact ⟨Or.inl, fun z => z.elim id (fun w => by omega)⟩
  · rw [List.getElem?_append_right (by omega)]
    have hn : ls[i]? = none := List.getElem?_eq_none (by omega)
    rw [hn]
    by_cases hz : i = ls.length
    · rw [hz, Nat.sub_self]
      constructor
      · intro h
        have : e = x := by simpa using h
        exact Or.inr ⟨rfl, this.symm⟩
      · rintro (h | ⟨-, h⟩)
        · exact absurd h (by simp)
        · rw [h]; rfl
    · have : ([e] : List β)[i - ls.length]? = none := List.getElem?_eq_none (by show 1 ≤ _; omega)
      rw [this]
      constructor
      · intro h; exact absurd h (by simp)
      · rintro (h | ⟨h, -⟩)
        · exact absurd h (by simp)
        · exact absurd h hz
def gl5 (w P s o t pl lab : Int) (f : Hp) : Option Hp := if kK (f w 10) = 0 then ob (By_add (f w 10) lab f) (fun r81 => Wy_growLetter_j84 w P s o t pl r81) else none
def gl4 (w P s o t pl lab : Int) (f : Hp) : Option Hp := if kK (f w 12) = 21 ∧ (0 : Int) ≤ pl ∧ pl < kL (f w 12) then gl5 w P s o t pl lab (hput f (f w 12) pl o) else none
def gl3 (w P s o t pl lab : Int) (f : Hp) : Option Hp := if kK (f w 11) = 21 then if kL (f w 11) ≤ pl then Wy_growLetter_j84 w P s o t pl f else if kK (f w 11) = 21 ∧ (0 : Int) ≤ pl ∧ pl < kL (f w 11) then gl4 w P s o t pl lab (hput f (f w 11) pl s) else none else none
def gl2 (w P s o t pl lab : Int) (f : Hp) : Option Hp := if kK (f w 9) = 0 then ob (By_add (f w 9) (w32 (97 + lab)) f) (fun r46 => gl3 w P s o t pl lab r46) else none
theorem growLetter_eq (w P s o : Int) (h : Hp) : Wy_growLetter w P s o h = if kK w = 8 then if kK (h w 4) = 21 ∧ (0 : Int) ≤ s ∧ s < kL (h w 4) then if kK P = 3 then if kK (h P 6) = 21 ∧ (0 : Int) ≤ h (h w 4) s ∧ h (h w 4) s < kL (h P 6) then if kK (h P 9) = 21 ∧ (0 : Int) ≤ w32 ((h (h P 6) (h (h w 4) s)) + o) ∧ w32 ((h (h P 6) (h (h w 4) s)) + o) < kL (h P 9) then if kK (h w 10) = 0 then ob (Wy_blankAhead w h) (fun r34 => gl2 w P s o (h (h w 4) s) (h (h w 10) 1) (h (h P 9) (w32 ((h (h P 6) (h (h w 4) s)) + o))) r34) else none else none else none else none else none else none := rfl
def ub4 (w P s o base : Int) (f : Hp) : Option Hp := if kK (f P 12) = 21 ∧ (0 : Int) ≤ w32 (base + o) ∧ w32 (base + o) < kL (f P 12) then if f (f P 12) (w32 (base + o)) = (-1) then Wy_unfoldBranch_j113 w P s o base f else ob (Wy_push w s (w32 ((f (f P 12) (w32 (base + o))) - base)) 1 f) (fun r110 => Wy_unfoldBranch_j113 w P s o base r110) else none
def ub3 (w P s o base : Int) (f : Hp) : Option Hp := ob (Wy_pushTask w ((-1)) (hput (hput (hput f w 3 (w32 ((f w 3) + 1))) w 15 (w32 (((hput f w 3 (w32 ((f w 3) + 1))) w 15) + 1))) w 2 (max ((hput (hput f w 3 (w32 ((f w 3) + 1))) w 15 (w32 (((hput f w 3 (w32 ((f w 3) + 1))) w 15) + 1))) w 2) ((hput (hput f w 3 (w32 ((f w 3) + 1))) w 15 (w32 (((hput f w 3 (w32 ((f w 3) + 1))) w 15) + 1))) w 15)))) (fun r82 => ub4 w P s o base r82)
def ub2 (w P s o base : Int) (f : Hp) : Option Hp := if kK (f P 9) = 21 ∧ (0 : Int) ≤ w32 (base + o) ∧ w32 (base + o) < kL (f P 9) then if kK (f w 9) = 0 then ob (By_add (f w 9) (w32 (65 + (f (f P 9) (w32 (base + o))))) f) (fun r42 => ub3 w P s o base r42) else none else none
def ub1 (w P s o base : Int) (f : Hp) : Option Hp := if kK (f w 9) = 0 then ob (By_add (f w 9) 40 f) (fun r23 => ub2 w P s o base r23) else none
theorem unfoldBranch_eq (w P s o : Int) (h : Hp) : Wy_unfoldBranch w P s o h = if kK P = 3 then if kK w = 8 then if kK (h w 4) = 21 ∧ (0 : Int) ≤ s ∧ s < kL (h w 4) then if kK (h P 6) = 21 ∧ (0 : Int) ≤ h (h w 4) s ∧ h (h w 4) s < kL (h P 6) then ob (Wy_blankAhead w h) (fun r14 => ub1 w P s o (h (h P 6) (h (h w 4) s)) r14) else none else none else none else none := rfl
section
variable {h h' g : Hp} {w P o8 n : Int} {G : Gm} {row : Int → Int} {st : St}
theorem growLetter_ok (E : UEnv h w P G o8 n row st) {txt : List Int} {ls : List (Int × Int)} {dm br dl : Nat} {stk : List Int} (U : USt h w G st txt ls dm br dl stk) {s node : Int} (s0 : 0 ≤ s) (s1 : s < (st.length : Int)) (et : (sEnt st s).1 = tr G node) (n0 : 0 ≤ node) (n1 : node < nN G) (hk : kd G node = 1) (hl : ls.length < 576) :
    ∃ h', Wy_growLetter w P s (off G node) h = some h' ∧ USt h' w G st (emit txt [97 + lb G node]) (ls ++ [(s, off G node)]) dm br dl stk ∧ FU w h h' := by
  have B := E.2.2.2.1
  have W := bx_W B
  have R := bx_R B
  have nn := wf_nn W
  have nt := wf_nt W
  have ht := wf_tr W n0 n1
  have rl := rel_in W n0 n1
  have ll := (wf_lb W n0 n1).1 (by omega)
  have hP := bx_P B
  have hw : w = 59 ∨ w = 72 := E.1
  have st48 := E.2.2.2.2.2
  obtain ⟨k0, k1, -, -, k4, -⟩ := WyO_k E.1
  obtain ⟨k6, k7, k8, k9, k10, k11, k12⟩ := WyO_k2 E.1
  obtain ⟨p0, p1, p2, p3, p4, -⟩ := GrO_k R.1
  have e4 : h w 4 = w + 1 := E.2.1.1
  have e10 : h w 10 = w + 8 := E.2.2.1.2.1
  have tr1 : h (w + 1) s = tr G node := by rw [(E.2.2.2.2.1.2.1 s s0 s1).1]; exact et
  have e6 : h P 6 = P + 1 := R.2.1.1
  have e9 : h P 9 = P + 4 := R.2.1.2.2.2.1
  have eft : h (P + 1) (tr G node) = ft G (tr G node) := R.2.2.2.2.1 _ ht.1 (by omega)
  have elb : h (P + 4) node = lb G node := (R.2.2.2.2.2.1 node n0 n1).2.2.1
  have eat : w32 (ft G (tr G node) + off G node) = node := by unfold off w32; omega
  have epl : h (w + 8) 1 = (ls.length : Int) := by rw [U.2.1.1.1, List.length_map]; omega
  have e97 : w32 (97 + lb G node) = 97 + lb G node := by unfold w32; omega
  obtain ⟨h1, h2, x1, y9, x2, U2, F2⟩ := sign_ok E U (v := 97 + lb G node) (by omega) (by omega)
  have E2 := UEnv_fu F2 E
  have T2 := E2.2.2.1
  obtain ⟨u1, u2, u3, u4, u5⟩ := U2
  rw [growLetter_eq, if_pos k0, e4, if_pos ⟨k1.1, s0, by rw [k1.2]; omega⟩, if_pos p0, tr1, e6, if_pos ⟨p1.1, ht.1, by rw [p1.2]; omega⟩, e9, eft, eat, if_pos ⟨p4.1, n0, by rw [p4.2]; omega⟩, e10, if_pos k8, elb, epl, x1, ob_some]
  unfold gl2
  rw [y9, if_pos k6, e97, x2, ob_some]
  unfold gl3
  rw [T2.2.2.1, if_pos k10.1, if_neg (by rw [k10.2]; omega), if_pos ⟨k10.1, by omega, by rw [k10.2]; omega⟩]
  unfold gl4
  rw [hput_ne1 (show w ≠ w + 10 by omega), T2.2.2.2.1, if_pos ⟨k11.1, by omega, by rw [k11.2]; omega⟩]
  generalize hf : hput (hput h2 (w + 10) (ls.length : Int) s) (w + 11) (ls.length : Int) (off G node) = f
  have fo : ∀ a i, a ≠ w + 10 → a ≠ w + 11 → f a i = h2 a i := fun a i z1 z2 => by rw [← hf, hput_ne1 z2, hput_ne1 z1]
  have fi : ∀ a i, i ≠ (ls.length : Int) → f a i = h2 a i := fun a i z => by rw [← hf, hput_ne2 z, hput_ne2 z]
  have f10 : f (w + 10) ls.length = s := by rw [← hf, hput_ne1 (by omega), hput_eq]
  have f11 : f (w + 11) ls.length = off G node := by rw [← hf, hput_eq]
  obtain ⟨f2, x3, t3, q3⟩ := By_add_ok (h := f) (o := w + 8) (c := w + 9) (m := 576) (v := lb G node) (l := ls.map (lbl G st)) k8 k9.1 k9.2 (by decide) (by rw [fo _ _ (by omega) (by omega)]; exact T2.2.2.2.2.2.2) (by omega) (ByT_eq (fo _ _ (by omega) (by omega)) (fun i => fo _ _ (by omega) (by omega)) u2.1) ll.1 (by omega)
  unfold gl5
  rw [fo w 10 (by omega) (by omega), T2.2.1, if_pos k8, x3, ob_some]
  have q2 : ∀ a i, (a ≠ w + 8 ∨ i ≠ 1) → a ≠ w + 9 → a ≠ w + 10 → a ≠ w + 11 → f2 a i = h2 a i := fun a i z1 z2 z3 z4 => by rw [q3 a i z1 z2, fo a i z3 z4]
  have F3 : FU w h2 f2 := fun c s a1 a2 a3 a4 a5 a6 a7 a8 a9 => q2 c s a5 a6 a7 a8
  have E3 := UEnv_fu F3 E2
  have lb1 : lbl G st (s, off G node) = lb G node := by
    show lb G (ft G (sEnt st s).1 + off G node) = lb G node
    rw [et, show ft G (tr G node) + off G node = node by unfold off; omega]
  have L3 : LtU f2 w G st (ls ++ [(s, off G node)]) := by
    refine ⟨by rw [List.map_append]; show ByT f2 (w + 8) (w + 9) 576 (ls.map (lbl G st) ++ [lbl G st (s, off G node)]); rw [lb1]; exact t3, ?_⟩
    intro i e he
    rcases app1.mp he with z | ⟨z1, z2⟩
    · have hi : i < ls.length := by
        by_cases hh : i < ls.length
        · exact hh
        · rw [List.getElem?_eq_none (by omega)] at z
          exact absurd z (by simp)
      rw [q3 _ _ (Or.inl (by omega)) (by omega), q3 _ _ (Or.inl (by omega)) (by omega), fi _ _ (by omega), fi _ _ (by omega)]
      exact u2.2 i e z
    · subst z1 z2
      rw [q3 _ _ (Or.inl (by omega)) (by omega), q3 _ _ (Or.inl (by omega)) (by omega)]
      exact ⟨f10, f11⟩
  have T3 : TxU f2 w (emit txt [97 + lb G node]) := TxU_eq (q2 _ _ (Or.inl (by omega)) (by omega) (by omega) (by omega)) (fun i => q2 _ _ (Or.inl (by omega)) (by omega) (by omega) (by omega)) u1
  have N3 : NuU f2 w dm br dl := NuU_eq (q2 _ _ (Or.inl (by omega)) (by omega) (by omega) (by omega)) (q2 _ _ (Or.inl (by omega)) (by omega) (by omega) (by omega)) (q2 _ _ (Or.inl (by omega)) (by omega) (by omega) (by omega)) u3
  have K3 : SkU f2 w stk := SkU_eq (q2 _ _ (Or.inl (by omega)) (by omega) (by omega) (by omega)) (fun i => q2 _ _ (Or.inl (by omega)) (by omega) (by omega) (by omega)) u4
  have H3 : HdU f2 w G st ls := HdU_eq (fun i => q2 _ _ (Or.inl (by omega)) (by omega) (by omega) (by omega)) u5
  unfold Wy_growLetter_j84
  rw [if_pos p0, Gr_firstOfKind_ok E3.2.2.2.1 ht.1 ht.2.1, ob_some]
  by_cases hfk : fstK G (tr G node) 1 = off G node
  · have e7 : f2 w 7 = w + 4 := E3.2.1.2.2.2.1
    rw [if_pos hfk, if_pos k0, e7, if_pos ⟨k4.1, s0, by rw [k4.2]; omega⟩]
    have q4 : ∀ a i, a ≠ w + 4 → hput f2 (w + 4) s (ls.length : Int) a i = f2 a i := fun a i z => hput_ne1 z
    refine ⟨_, rfl, ⟨TxU_eq (q4 _ _ (by omega)) (fun i => q4 _ _ (by omega)) T3, LtU_eq (q4 _ _ (by omega)) (fun c i hc => q4 _ _ (by omega)) L3, NuU_eq (q4 _ _ (by omega)) (q4 _ _ (by omega)) (q4 _ _ (by omega)) N3, SkU_eq (q4 _ _ (by omega)) (fun i => q4 _ _ (by omega)) K3, ?_⟩, (F2.tr F3).tr (fun c s a1 a2 a3 a4 a5 a6 a7 a8 a9 => q4 c s a2)⟩
    intro s' a b
    by_cases hs : s' = s
    · subst hs
      right
      refine ⟨ls.length, app1.mpr (Or.inr ⟨rfl, ?_⟩), hput_eq _ _ _ _⟩
      rw [et, hfk]
    · rw [hput_ne2 hs]
      rcases H3 s' a b with ⟨z1, z2⟩ | ⟨i, z1, z2⟩
      · left
        refine ⟨z1, fun i hi => ?_⟩
        rcases app1.mp hi with z | ⟨-, z⟩
        · exact z2 i z
        · exact hs (congrArg Prod.fst z)
      · right
        exact ⟨i, app1.mpr (Or.inl z1), z2⟩
  · rw [if_neg hfk]
    refine ⟨f2, rfl, ⟨T3, L3, N3, K3, ?_⟩, F2.tr F3⟩
    intro s' a b
    rcases H3 s' a b with ⟨z1, z2⟩ | ⟨i, z1, z2⟩
    · left
      refine ⟨z1, fun i hi => ?_⟩
      rcases app1.mp hi with z | ⟨-, z⟩
      · exact z2 i z
      · have e1 : s' = s := congrArg Prod.fst z
        have e2 : fstK G (sEnt st s').1 1 = off G node := congrArg Prod.snd z
        rw [e1, et] at e2
        exact hfk e2
    · right
      exact ⟨i, app1.mpr (Or.inl z1), z2⟩
theorem unfoldBranch_ok (E : UEnv h w P G o8 n row st) {txt : List Int} {ls : List (Int × Int)} {dm br dl : Nat} {stk : List Int} (U : USt h w G st txt ls dm br dl stk) {s node : Int} (s0 : 0 ≤ s) (s1 : s < (st.length : Int)) (et : (sEnt st s).1 = tr G node) (n0 : 0 ≤ node) (n1 : node < nN G) (hk : kd G node = 0) (hl : stk.length + 3 ≤ 1024) (hb : br < 100000) (hd : dl < 100000) :
    ∃ h', Wy_unfoldBranch w P s (off G node) h = some h' ∧ USt h' w G st (emit txt [40, 65 + lb G node]) ls (max dm (dl + 1)) (br + 1) (dl + 1) ((2 * (12 * s + off G (c1 G node)) + 1) :: (if c2 G node = -1 then (-1) :: stk else (2 * (12 * s + off G (c2 G node)) + 1) :: (-1) :: stk)) ∧ FU w h h' := by
  have B := E.2.2.2.1
  have W := bx_W B
  have R := bx_R B
  have nn := wf_nn W
  have nt := wf_nt W
  have ht := wf_tr W n0 n1
  have rl := rel_in W n0 n1
  have ll := (wf_lb W n0 n1).1 (by omega)
  have st48 := E.2.2.2.2.2
  have c := (ch_in W n0 n1 hk).1
  have rl1 := rel_in W c.2.1 c.2.2.1
  rw [c.2.2.2] at rl1
  obtain ⟨k0, k1, -, -, k4, -⟩ := WyO_k E.1
  obtain ⟨k6, k7, k8, k9, k10, k11, k12⟩ := WyO_k2 E.1
  obtain ⟨p0, p1, p2, p3, p4, p5, p6, p7, -⟩ := GrO_k R.1
  have e4 : h w 4 = w + 1 := E.2.1.1
  have tr1 : h (w + 1) s = tr G node := by rw [(E.2.2.2.2.1.2.1 s s0 s1).1]; exact et
  have e6 : h P 6 = P + 1 := R.2.1.1
  have eft : h (P + 1) (tr G node) = ft G (tr G node) := R.2.2.2.2.1 _ ht.1 (by omega)
  have eat : w32 (ft G (tr G node) + off G node) = node := by unfold off w32; omega
  have e65 : w32 (65 + lb G node) = 65 + lb G node := by unfold w32; omega
  obtain ⟨h1, h2, x1, y9, x2, U2, F2⟩ := sign_ok E U (v := 40) (by decide) (by decide)
  have E2 := UEnv_fu F2 E
  have R2 := bx_R E2.2.2.2.1
  obtain ⟨h3, x3, U3, F3⟩ := addT_ok E2 U2 (v := 65 + lb G node) (by omega) (by omega)
  have E3 := UEnv_fu F3 E2
  rw [unfoldBranch_eq, if_pos p0, if_pos k0, e4, if_pos ⟨k1.1, s0, by rw [k1.2]; omega⟩, tr1, e6, if_pos ⟨p1.1, ht.1, by rw [p1.2]; omega⟩, eft, x1, ob_some]
  unfold ub1
  rw [y9, if_pos k6, x2, ob_some]
  have e9 : h2 P 9 = P + 4 := R2.2.1.2.2.2.1
  have elb : h2 (P + 4) node = lb G node := (R2.2.2.2.2.2.1 node n0 n1).2.2.1
  unfold ub2
  rw [e9, eat, if_pos ⟨p4.1, n0, by rw [p4.2]; omega⟩, E2.2.2.1.1, if_pos k6, elb, e65, x3, ob_some]
  unfold ub3
  obtain ⟨v1, v2, v3, v4, v5⟩ := U3
  rw [v3.2.1, show w32 ((br : Int) + 1) = br + 1 by unfold w32; omega, hput_ne2 (show (15 : Int) ≠ 3 by decide), v3.2.2, show w32 ((dl : Int) + 1) = dl + 1 by unfold w32; omega]
  rw [hput_eq, hput_ne2 (show (2 : Int) ≠ 15 by decide), hput_ne2 (show (2 : Int) ≠ 3 by decide), v3.1]
  generalize hg : hput (hput (hput h3 w 3 ((br : Int) + 1)) w 15 ((dl : Int) + 1)) w 2 (max (dm : Int) ((dl : Int) + 1)) = f
  have fo : ∀ a i, (a ≠ w ∨ (i ≠ 2 ∧ i ≠ 3 ∧ i ≠ 15)) → f a i = h3 a i := by
    intro a i z
    rw [← hg]
    rcases z with z | z
    · rw [hput_ne1 z, hput_ne1 z, hput_ne1 z]
    · rw [hput_ne2 z.1, hput_ne2 z.2.2, hput_ne2 z.2.1]
  have Ff : FU w h3 f := fun c s a1 a2 a3 a4 a5 a6 a7 a8 a9 => fo c s (a1.elim Or.inl (fun z => Or.inr (by omega)))
  have Ef := UEnv_fu Ff E3
  have Uf : USt f w G st (emit txt [40, 65 + lb G node]) ls (max dm (dl + 1)) (br + 1) (dl + 1) stk := by
    have et2 : emit txt [40] ++ [65 + lb G node] = emit txt [40, 65 + lb G node] := by
      unfold emit
      by_cases ht : txt = []
      · rw [if_pos ht, if_pos ht]; rfl
      · rw [if_neg ht, if_neg ht, List.append_assoc]; rfl
    rw [et2] at v1
    refine ⟨TxU_eq (fo _ _ (Or.inl (by omega))) (fun i => fo _ _ (Or.inl (by omega))) v1, LtU_eq (fo _ _ (Or.inl (by omega))) (fun c i hc => fo _ _ (Or.inl (by omega))) v2, ⟨?_, ?_, ?_⟩, SkU_eq (fo _ _ (Or.inr (by decide))) (fun i => fo _ _ (Or.inl (by omega))) v4, HdU_eq (fun i => fo _ _ (Or.inl (by omega))) v5⟩
    · rw [← hg, hput_eq]; omega
    · rw [← hg, hput_ne2 (by decide), hput_ne2 (by decide), hput_eq]; omega
    · rw [← hg, hput_ne2 (by decide), hput_eq]; omega
  obtain ⟨g1, x4, U4, F4⟩ := pushTask_ok Ef Uf (by omega) (-1)
  have E4 := UEnv_fu F4 Ef
  have R4 := bx_R E4.2.2.2.1
  rw [x4, ob_some]
  unfold ub4
  have e12 : g1 P 12 = P + 7 := R4.2.1.2.2.2.2.2.2.1
  have ec2 : g1 (P + 7) node = c2 G node := (R4.2.2.2.2.2.1 node n0 n1).2.2.2.2.2.1
  rw [e12, eat, if_pos ⟨p7.1, n0, by rw [p7.2]; omega⟩, ec2]
  have last : ∀ (g2 : Hp) (stk' : List Int), UEnv g2 w P G o8 n row st → USt g2 w G st (emit txt [40, 65 + lb G node]) ls (max dm (dl + 1)) (br + 1) (dl + 1) stk' → stk'.length < 1024 → ∃ h', Wy_unfoldBranch_j113 w P s (off G node) (ft G (tr G node)) g2 = some h' ∧ USt h' w G st (emit txt [40, 65 + lb G node]) ls (max dm (dl + 1)) (br + 1) (dl + 1) ((2 * (12 * s + off G (c1 G node)) + 1) :: stk') ∧ FU w g2 h' := by
    intro g2 stk' Eg Ug hlg
    have Rg := bx_R Eg.2.2.2.1
    have e11 : g2 P 11 = P + 6 := Rg.2.1.2.2.2.2.2.1
    have ec1 : g2 (P + 6) node = c1 G node := (Rg.2.2.2.2.2.1 node n0 n1).2.2.2.2.1
    have ew1 : w32 (c1 G node - ft G (tr G node)) = off G (c1 G node) := by unfold off w32; rw [c.2.2.2]; omega
    have o1 : 0 ≤ off G (c1 G node) ∧ off G (c1 G node) < 12 := by unfold off; rw [c.2.2.2]; omega
    obtain ⟨g3, x5, U5, F5'⟩ := wpush_ok Eg Ug hlg (s := s) (m := off G (c1 G node)) (half := 1) s0 (by omega) o1.1 o1.2 (Or.inr rfl)
    unfold Wy_unfoldBranch_j113
    rw [if_pos p0, e11, eat, if_pos ⟨p6.1, n0, by rw [p6.2]; omega⟩, if_pos k0, ec1, ew1, x5, ob_some]
    exact ⟨g3, rfl, U5, F5'⟩
  by_cases h2' : c2 G node = -1
  · rw [if_pos h2', if_pos h2']
    obtain ⟨g2, x5, U5, F5'⟩ := last g1 ((-1) :: stk) E4 U4 (by show stk.length + 1 < 1024; omega)
    exact ⟨g2, x5, U5, (((F2.tr F3).tr Ff).tr F4).tr F5'⟩
  · have c' := (ch_in W n0 n1 hk).2 h2'
    have rl2 := rel_in W c'.2.1 c'.2.2.1
    rw [c'.2.2.2] at rl2
    have ew2 : w32 (c2 G node - ft G (tr G node)) = off G (c2 G node) := by unfold off w32; rw [c'.2.2.2]; omega
    have o2 : 0 ≤ off G (c2 G node) ∧ off G (c2 G node) < 12 := by unfold off; rw [c'.2.2.2]; omega
    obtain ⟨g2, x5, U5, F5'⟩ := wpush_ok E4 U4 (by show stk.length + 1 < 1024; omega) (s := s) (m := off G (c2 G node)) (half := 1) s0 (by omega) o2.1 o2.2 (Or.inr rfl)
    rw [if_neg h2', if_neg h2', ew2, x5, ob_some]
    obtain ⟨g3, x6, U6, F6⟩ := last g2 ((2 * (12 * s + off G (c2 G node)) + 1) :: (-1) :: stk) (UEnv_fu F5' E4) U5 (by show stk.length + 1 + 1 < 1024; omega)
    exact ⟨g3, x6, U6, ((((F2.tr F3).tr Ff).tr F4).tr F5').tr F6⟩
end
