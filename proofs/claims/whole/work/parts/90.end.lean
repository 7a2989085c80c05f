/-! THE CLAIM OUT OF ONE WALK OF THE LAW'S BODY. Your part is whole_start (and what it stands on); all else here is the same for every law, but numbers. -/
def R_law : String := "CrossReaderLaw"
def lw_P (b : Addr) (xs : List Int32) (args : Array Value) (s : State) : Prop := args = #[.ref b] ∧ s.IntsAt b xs ∧ xs.length ≤ 4096 ∧ (Jvm.Cond.and given_1 narrow_1).before args s = true
def lw_Q (_ : Array Value) (s : State) (o : Outcome) (t : State) : Prop := o = .returned (some (.int 1)) ∧ Framed s o t [] 600000 7302250
def lw_Z (below : List Frame) (a : Array Value) (s : State) : State → Prop := fun t => ∃ o, t.status = .running ∧ Ended t below o ∧ lw_Q a s o t
/-- the law's own end, with 1 on the stack, nothing written that was there before, its room as the claim has it -/
theorem lw_ret {p : Program} {l : Launch} {e : Env} {s : State} {m : MethodId} {below : List Frame} {meth : Method} {c : Code} {b : Nat} (hx : p.tables.exec = Jvm.exec) (hb : c.code = code) (hr : meth.sig.returnType = ret) (hlocks : meth.locks = false) {pc : Nat} {H : Heap} {ls : Array Slot} (hdg : decode code pc = .ok (.ireturn, 1)) : W p l e room_1 s m #[Value.ref b] below meth c H [] 600000 7302250 (lw_Z below #[Value.ref b] s) (F0 m pc ls [.int 1]) := by
  intro T hT X
  obtain ⟨fs, hret, hrun, hended, hW, hframe⟩ := X.leave (v := some (.int 1)) (hlocks := hlocks) (fun h => by rw [hr] at h; cases h)
  have hmeth' : T.vm.method? m = some meth := X.method'
  refine ⟨T.setFrames fs, ?_, .returned (some (.int 1)), hrun, hended, rfl, ⟨_, rfl⟩, hW, hframe⟩
  jvm_step X.here [X.here.top, hx, hb, hdg, hmeth', hr, ret, narrow_b1]
  (try refine ⟨rfl, ?_⟩); (try refine ⟨rfl, ?_⟩)
  first | (intro acts; rw [hret _ acts rfl rfl rfl]) | rw [hret _ _ rfl rfl rfl]
  exact Steps.refl _
/-- what holds at the law's entry: the machine, the code, the tables' words (any of lw_tbl by 'hts w (by decide +kernel)'), the script of L ints xs at the cell b, what the Statement gives of the start (any of its parts by flat_of_before) -/
def lw_At (p : Program) (s : State) (m : MethodId) (meth : Method) (c : Code) (b L : Nat) (xs : Nat → Int32) : Prop :=
  p.tables.exec = Jvm.exec ∧ c.code = code ∧ meth.sig.returnType = ret ∧ c.maxLocals = 4 ∧ s.vm.findClass R_law = some m.cls ∧ (∀ w ∈ lw_tbl, w.before #[Value.ref b] s = true) ∧ va_X b L xs s s.heap ∧ b < s.heap.size ∧ meth.locks = false ∧ (Jvm.Cond.and given_1 narrow_1).before #[Value.ref b] s = true
def h00 : Hp := fun a j => dfl a j
theorem z_R_00 : z_R h00 := by
  intro a j
  unfold h00 dfl
  generalize kS a j = t
  rcases t with _ | _ | t
  · exact r32_0
  · exact r64_0
  · by_cases e2 : t + 1 + 1 = 2
    · rw [if_pos e2]; exact trivial
    · rw [if_neg e2]; exact trivial
/-- the whole, in plain functions: both objects are made, the loop over the script comes to its end with equal answers -/
theorem pure_main (sc : Int → Int) (L : Int) (h0 : 0 ≤ L) (hL : L ≤ 4096) (hs : ∀ i, r32 (sc i)) : ∃ h1 h2 hE : Hp, X_new 0 1 (hnew h00 0) = some h1 ∧ M_new 121 122 (hnew h1 121) = some h2 ∧ loopN (fun q => Lw_L18 2048 sc L (-5) 0 121 q.1 q.2) LN (0, h2) = some hE := pure_ok sc L h0 hL hs
set_option maxHeartbeats 4000000 in
set_option maxRecDepth 100000 in
theorem whole_start {p : Program} {e : Env} {s : State} {m : MethodId} {below : List Frame} {meth : Method} {c : Code} (l : Launch) (hflags : l.flags = flags0) {b L : Nat} {xs' : Nat → Int32} (hL : L ≤ 4096) (C0 : lw_At p s m meth c b L xs') : W p l e room_1 s m #[Value.ref b] below meth c s.heap [] 0 0 (lw_Z below #[Value.ref b] s) (entryFrame m ([Value.ref b] : List Value).toArray 4) := by
  obtain ⟨hx, hb, hr, hml, hown, hts, hX, hbl, hlocks, hgv⟩ := id C0
  obtain ⟨c0, iS0, hKn0⟩ := u_known (C := RX1) (T := TX1) (N := 2) (n := 2) hts inX1 (hts (.instantiable RX1 2) (mt1 (List.mem_of_getElem? (i := 26) rfl)))
  obtain ⟨c1, iS1, hKn1⟩ := u_known (C := RX2) (T := TX2) (N := 6) (n := 6) hts inX2 (hts (.instantiable RX2 6) (mt1 (List.mem_of_getElem? (i := 154) rfl)))
  obtain ⟨c2, iS2, hKn2⟩ := u_known (C := RX3) (T := TX3) (N := 1) (n := 1) hts inX3 (hts (.instantiable RX3 1) (mt1 (List.mem_of_getElem? (i := 112) rfl)))
  obtain ⟨c3, iS3, hKn3⟩ := u_known (C := RX4) (T := TX4) (N := 19) (n := 19) hts inX4 (hts (.instantiable RX4 19) (mt1 (List.mem_of_getElem? (i := 160) rfl)))
  obtain ⟨c4, iS4, hKn4⟩ := u_known (C := RX5) (T := TX5) (N := 6) (n := 6) hts inX5 (hts (.instantiable RX5 6) (mt1 (List.mem_of_getElem? (i := 49) rfl)))
  obtain ⟨c5, iS5, hKn5⟩ := u_known (C := RX6) (T := TX6) (N := 3) (n := 3) hts inX6 (hts (.instantiable RX6 3) (mt1 (List.mem_of_getElem? (i := 135) rfl)))
  obtain ⟨c6, iS6, hKn6⟩ := u_known (C := RX7) (T := TX7) (N := 8) (n := 8) hts inX7 (hts (.instantiable RX7 8) (mt1 (List.mem_of_getElem? (i := 78) rfl)))
  obtain ⟨c7, iS7, hKn7⟩ := u_known (C := RX8) (T := TX8) (N := 1) (n := 1) hts inX8 (hts (.instantiable RX8 1) (mt1 (List.mem_of_getElem? (i := 125) rfl)))
  obtain ⟨c8, iS8, hKn8⟩ := u_known (C := RX9) (T := TX9) (N := 16) (n := 16) hts inX9 (hts (.instantiable RX9 16) (mt2 (List.mem_of_getElem? (i := 116) rfl)))
  obtain ⟨c9, iS9, hKn9⟩ := u_known (C := RX10) (T := TX10) (N := 14) (n := 14) hts inX10 (hts (.instantiable RX10 14) (mt2 (List.mem_of_getElem? (i := 67) rfl)))
  obtain ⟨c10, iS10, hKn10⟩ := u_known (C := RX11) (T := TX11) (N := 19) (n := 19) hts inX11 (hts (.instantiable RX11 19) (mt1 (List.mem_of_getElem? (i := 18) rfl)))
  obtain ⟨c11, iS11, hKn11⟩ := u_known (C := RX12) (T := TX12) (N := 62) (n := 62) hts inX12 (hts (.instantiable RX12 62) (mt6 (List.mem_of_getElem? (i := 8) rfl)))
  obtain ⟨dC, dI, hKc⟩ : ∃ (dC : Nat → ClassId) (dI : Nat → Nat → Nat), ∀ (k : Nat) (q : vw_C), vwCl[k]? = some q → u_Kn s q.1 q.2.1 q.2.2 (dC k) (dI k) := by
    refine ⟨fun k => if k = 0 then c0 else if k = 1 then c1 else if k = 2 then c2 else if k = 3 then c3 else if k = 4 then c4 else if k = 5 then c5 else if k = 6 then c6 else if k = 7 then c7 else if k = 8 then c8 else if k = 9 then c9 else if k = 10 then c10 else c11, fun k => if k = 0 then iS0 else if k = 1 then iS1 else if k = 2 then iS2 else if k = 3 then iS3 else if k = 4 then iS4 else if k = 5 then iS5 else if k = 6 then iS6 else if k = 7 then iS7 else if k = 8 then iS8 else if k = 9 then iS9 else if k = 10 then iS10 else iS11, ?_⟩
    intro k q hq
    match k, hq with
    | 0, hq => cases hq; exact hKn0
    | 1, hq => cases hq; exact hKn1
    | 2, hq => cases hq; exact hKn2
    | 3, hq => cases hq; exact hKn3
    | 4, hq => cases hq; exact hKn4
    | 5, hq => cases hq; exact hKn5
    | 6, hq => cases hq; exact hKn6
    | 7, hq => cases hq; exact hKn7
    | 8, hq => cases hq; exact hKn8
    | 9, hq => cases hq; exact hKn9
    | 10, hq => cases hq; exact hKn10
    | 11, hq => cases hq; exact hKn11
    | k + 12, hq => simp [vwCl] at hq
  obtain ⟨cAB, kAB, coB, fAB, fBB, fCB⟩ := Cond.arrayClass_spec (hts (.arrayClass .byte) (mt1 (List.mem_of_getElem? (i := 47) rfl)))
  obtain ⟨cAI, kAI, coI, fAI, fBI, fCI⟩ := Cond.arrayClass_spec (hts (.arrayClass .int) (mt1 (List.mem_of_getElem? (i := 110) rfl)))
  obtain ⟨cAJ, kAJ, coJ, fAJ, fBJ, fCJ⟩ := Cond.arrayClass_spec (hts (.arrayClass .long) (mt1 (List.mem_of_getElem? (i := 152) rfl)))
  obtain ⟨cAZ, kAZ, coZ, fAZ, fBZ, fCZ⟩ := Cond.arrayClass_spec (hts (.arrayClass .boolean) (mt2 (List.mem_of_getElem? (i := 43) rfl)))
  have hao : z_ao s := hts (.arrayOver (.array .int)) (mt2 (List.mem_of_getElem? (i := 186) rfl))
  obtain ⟨coO, cAO, kAO, -, fBO, fCO, fAO⟩ := Cond.arrayOver_specA hao
  have hflat := flat_of_before _ hgv
  have hnA : ∀ a : Nat, a < s.heap.size → ¬ (fun q : Nat => s.heap.size ≤ q) a := fun a h q => absurd h (Nat.not_lt.mpr q)
  obtain ⟨tJ, hvJ, hTJ⟩ := va_Tof (tm := (Term.static "CrossReader$Chart" "BY_J" "[I")) (ty := .int) (N := 10) (f := fun j => .int (i32 (sJ (j : Int)))) (A := fun q : Nat => s.heap.size ≤ q) (by decide) (hflat (.arrayOf (Term.static "CrossReader$Chart" "BY_J" "[I") .int) (by decide +kernel)) (va_eqt (z := 10) (hflat (.eq (.length (Term.static "CrossReader$Chart" "BY_J" "[I")) (.int 10)) (by decide +kernel))) (by
    intro j hj
    match j, hj with
    | 0, _ => exact va_eqt (z := 0) (hflat (.eq (.elem (Term.static "CrossReader$Chart" "BY_J" "[I") (.int 0)) (.int 0)) (by decide +kernel))
    | 1, _ => exact va_eqt (z := 1) (hflat (.eq (.elem (Term.static "CrossReader$Chart" "BY_J" "[I") (.int 1)) (.int 1)) (by decide +kernel))
    | 2, _ => exact va_eqt (z := 5) (hflat (.eq (.elem (Term.static "CrossReader$Chart" "BY_J" "[I") (.int 2)) (.int 5)) (by decide +kernel))
    | 3, _ => exact va_eqt (z := 15) (hflat (.eq (.elem (Term.static "CrossReader$Chart" "BY_J" "[I") (.int 3)) (.int 15)) (by decide +kernel))
    | 4, _ => exact va_eqt (z := 35) (hflat (.eq (.elem (Term.static "CrossReader$Chart" "BY_J" "[I") (.int 4)) (.int 35)) (by decide +kernel))
    | 5, _ => exact va_eqt (z := 70) (hflat (.eq (.elem (Term.static "CrossReader$Chart" "BY_J" "[I") (.int 5)) (.int 70)) (by decide +kernel))
    | 6, _ => exact va_eqt (z := 126) (hflat (.eq (.elem (Term.static "CrossReader$Chart" "BY_J" "[I") (.int 6)) (.int 126)) (by decide +kernel))
    | 7, _ => exact va_eqt (z := 210) (hflat (.eq (.elem (Term.static "CrossReader$Chart" "BY_J" "[I") (.int 7)) (.int 210)) (by decide +kernel))
    | 8, _ => exact va_eqt (z := 330) (hflat (.eq (.elem (Term.static "CrossReader$Chart" "BY_J" "[I") (.int 8)) (.int 330)) (by decide +kernel))
    | 9, _ => exact va_eqt (z := 495) (hflat (.eq (.elem (Term.static "CrossReader$Chart" "BY_J" "[I") (.int 9)) (.int 495)) (by decide +kernel))
    | j + 10, hj => exact absurd hj (by omega)) hnA
  have hZJ := va_Zof (C := "CrossReader$Chart") (n := "BY_J") (d := "[I") (A := fun q : Nat => s.heap.size ≤ q) (hts (.laysStatic "CrossReader$Chart" "BY_J" "[I") (mt3 (List.mem_of_getElem? (i := 228) rfl))) (hts (.initialized "CrossReader$Chart") (mt1 (List.mem_of_getElem? (i := 10) rfl))) hvJ hnA
  obtain ⟨tQ, hvQ, hTQ⟩ := va_Tof (tm := (Term.static "CrossReader$Chart" "BY_Q" "[I")) (ty := .int) (N := 9) (f := fun j => .int (i32 (sQ (j : Int)))) (A := fun q : Nat => s.heap.size ≤ q) (by decide) (hflat (.arrayOf (Term.static "CrossReader$Chart" "BY_Q" "[I") .int) (by decide +kernel)) (va_eqt (z := 9) (hflat (.eq (.length (Term.static "CrossReader$Chart" "BY_Q" "[I")) (.int 9)) (by decide +kernel))) (by
    intro j hj
    match j, hj with
    | 0, _ => exact va_eqt (z := 0) (hflat (.eq (.elem (Term.static "CrossReader$Chart" "BY_Q" "[I") (.int 0)) (.int 0)) (by decide +kernel))
    | 1, _ => exact va_eqt (z := 1) (hflat (.eq (.elem (Term.static "CrossReader$Chart" "BY_Q" "[I") (.int 1)) (.int 1)) (by decide +kernel))
    | 2, _ => exact va_eqt (z := 4) (hflat (.eq (.elem (Term.static "CrossReader$Chart" "BY_Q" "[I") (.int 2)) (.int 4)) (by decide +kernel))
    | 3, _ => exact va_eqt (z := 10) (hflat (.eq (.elem (Term.static "CrossReader$Chart" "BY_Q" "[I") (.int 3)) (.int 10)) (by decide +kernel))
    | 4, _ => exact va_eqt (z := 20) (hflat (.eq (.elem (Term.static "CrossReader$Chart" "BY_Q" "[I") (.int 4)) (.int 20)) (by decide +kernel))
    | 5, _ => exact va_eqt (z := 35) (hflat (.eq (.elem (Term.static "CrossReader$Chart" "BY_Q" "[I") (.int 5)) (.int 35)) (by decide +kernel))
    | 6, _ => exact va_eqt (z := 56) (hflat (.eq (.elem (Term.static "CrossReader$Chart" "BY_Q" "[I") (.int 6)) (.int 56)) (by decide +kernel))
    | 7, _ => exact va_eqt (z := 84) (hflat (.eq (.elem (Term.static "CrossReader$Chart" "BY_Q" "[I") (.int 7)) (.int 84)) (by decide +kernel))
    | 8, _ => exact va_eqt (z := 120) (hflat (.eq (.elem (Term.static "CrossReader$Chart" "BY_Q" "[I") (.int 8)) (.int 120)) (by decide +kernel))
    | j + 9, hj => exact absurd hj (by omega)) hnA
  have hZQ := va_Zof (C := "CrossReader$Chart") (n := "BY_Q") (d := "[I") (A := fun q : Nat => s.heap.size ≤ q) (hts (.laysStatic "CrossReader$Chart" "BY_Q" "[I") (mt4 (List.mem_of_getElem? (i := 7) rfl))) (hts (.initialized "CrossReader$Chart") (mt1 (List.mem_of_getElem? (i := 10) rfl))) hvQ hnA
  obtain ⟨tP, hvP, hTP⟩ := va_Tof (tm := (Term.static "CrossReader$Chart" "BY_P" "[I")) (ty := .int) (N := 9) (f := fun j => .int (i32 (sP (j : Int)))) (A := fun q : Nat => s.heap.size ≤ q) (by decide) (hflat (.arrayOf (Term.static "CrossReader$Chart" "BY_P" "[I") .int) (by decide +kernel)) (va_eqt (z := 9) (hflat (.eq (.length (Term.static "CrossReader$Chart" "BY_P" "[I")) (.int 9)) (by decide +kernel))) (by
    intro j hj
    match j, hj with
    | 0, _ => exact va_eqt (z := 0) (hflat (.eq (.elem (Term.static "CrossReader$Chart" "BY_P" "[I") (.int 0)) (.int 0)) (by decide +kernel))
    | 1, _ => exact va_eqt (z := 1) (hflat (.eq (.elem (Term.static "CrossReader$Chart" "BY_P" "[I") (.int 1)) (.int 1)) (by decide +kernel))
    | 2, _ => exact va_eqt (z := 3) (hflat (.eq (.elem (Term.static "CrossReader$Chart" "BY_P" "[I") (.int 2)) (.int 3)) (by decide +kernel))
    | 3, _ => exact va_eqt (z := 6) (hflat (.eq (.elem (Term.static "CrossReader$Chart" "BY_P" "[I") (.int 3)) (.int 6)) (by decide +kernel))
    | 4, _ => exact va_eqt (z := 10) (hflat (.eq (.elem (Term.static "CrossReader$Chart" "BY_P" "[I") (.int 4)) (.int 10)) (by decide +kernel))
    | 5, _ => exact va_eqt (z := 15) (hflat (.eq (.elem (Term.static "CrossReader$Chart" "BY_P" "[I") (.int 5)) (.int 15)) (by decide +kernel))
    | 6, _ => exact va_eqt (z := 21) (hflat (.eq (.elem (Term.static "CrossReader$Chart" "BY_P" "[I") (.int 6)) (.int 21)) (by decide +kernel))
    | 7, _ => exact va_eqt (z := 28) (hflat (.eq (.elem (Term.static "CrossReader$Chart" "BY_P" "[I") (.int 7)) (.int 28)) (by decide +kernel))
    | 8, _ => exact va_eqt (z := 36) (hflat (.eq (.elem (Term.static "CrossReader$Chart" "BY_P" "[I") (.int 8)) (.int 36)) (by decide +kernel))
    | j + 9, hj => exact absurd hj (by omega)) hnA
  have hZP := va_Zof (C := "CrossReader$Chart") (n := "BY_P") (d := "[I") (A := fun q : Nat => s.heap.size ≤ q) (hts (.laysStatic "CrossReader$Chart" "BY_P" "[I") (mt4 (List.mem_of_getElem? (i := 9) rfl))) (hts (.initialized "CrossReader$Chart") (mt1 (List.mem_of_getElem? (i := 10) rfl))) hvP hnA
  obtain ⟨ad, hadJ, hadQ, hadP, hadS, hadk⟩ : ∃ ad : Int → Nat, ad (-2) = tJ ∧ ad (-3) = tQ ∧ ad (-4) = tP ∧ ad (-5) = b ∧ ∀ k : Nat, ad (k : Int) = s.heap.size + k := by
    refine ⟨fun r => if r = -2 then tJ else if r = -3 then tQ else if r = -4 then tP else if r = -5 then b else s.heap.size + r.toNat, rfl, rfl, rfl, rfl, fun k => ?_⟩
    have h1 : ¬ ((k : Int) = -2) := by omega
    have h2 : ¬ ((k : Int) = -3) := by omega
    have h3 : ¬ ((k : Int) = -4) := by omega
    have h4 : ¬ ((k : Int) = -5) := by omega
    simp only [h1, h2, h3, h4, if_false]
    simp
  obtain ⟨cls, hcB, hcI, hcJ, hcZ, hcO⟩ : ∃ cls : Int → ClassId, cls 20 = cAB ∧ cls 21 = cAI ∧ cls 22 = cAJ ∧ cls 23 = cAZ ∧ cls 24 = cAO :=
    ⟨fun k => if k = 20 then cAB else if k = 21 then cAI else if k = 22 then cAJ else if k = 23 then cAZ else cAO, rfl, rfl, rfl, rfl, rfl⟩
  obtain ⟨g, hg⟩ : ∃ g : GP, g = (s.heap.size, ad, (dC, dI), cls) := ⟨_, rfl⟩
  have hlin : z_lin g := by subst hg; exact hadk
  have hG : z_G g s := by
    subst hg
    refine ⟨⟨hKc, fun k q hq => ?_⟩, fun w hw hn => ?_, Nat.le_refl _, ⟨?_, ?_⟩, ⟨?_, ?_⟩, ⟨?_, ?_⟩⟩
    · match k, hq with
      | 0, hq => cases hq; dsimp only; rw [hcB]; exact ⟨fun n z => ⟨fun k h => (by cases h), kAB, fBB, coB, fCB⟩, fAB⟩
      | 1, hq => cases hq; dsimp only; rw [hcI]; exact ⟨fun n z => ⟨fun k h => (by cases h), kAI, fBI, coI, fCI⟩, fAI⟩
      | 2, hq => cases hq; dsimp only; rw [hcJ]; exact ⟨fun n z => ⟨fun k h => (by cases h), kAJ, fBJ, coJ, fCJ⟩, fAJ⟩
      | 3, hq => cases hq; dsimp only; rw [hcZ]; exact ⟨fun n z => ⟨fun k h => (by cases h), kAZ, fBZ, coZ, fCZ⟩, fAZ⟩
      | 4, hq => cases hq; dsimp only; rw [hcO]; exact ⟨fun n z => ⟨fun k h => (by cases h), kAO, fBO, coO, fCO⟩, fAO⟩
      | k + 5, hq => simp [z_tys] at hq
    · have h0 := hts w hw
      refine va_Nw.of ?_ h0
      cases w <;> first | rfl | (simp [z_nest] at hn)
    · show va_Z _ _ _ (.ref (ad (-2))) _ _ _; rw [hadJ]; exact hZJ
    · show va_T _ (ad (-2)) _ _ _ _ _; rw [hadJ]; exact hTJ
    · show va_Z _ _ _ (.ref (ad (-3))) _ _ _; rw [hadQ]; exact hZQ
    · show va_T _ (ad (-3)) _ _ _ _ _; rw [hadQ]; exact hTQ
    · show va_Z _ _ _ (.ref (ad (-4))) _ _ _; rw [hadP]; exact hZP
    · show va_T _ (ad (-4)) _ _ _ _ _; rw [hadP]; exact hTP
  have hg1 : g.1 = s.heap.size := by rw [hg]
  have hg2 : g.2.1 (-5) = b := by rw [hg]; exact hadS
  obtain ⟨x, hxx⟩ : ∃ x : CX, x = (p, l, e, room_1, s, m, #[Value.ref b], below, meth, c, lw_Z below #[Value.ref b] s) := ⟨_, rfl⟩
  have X : zX g x RL cL_law 4 (2047 + 1) := by
    subst hxx
    exact ⟨hx, hb, hml, hown, fun w hw _ => hts w hw, hG, hlocks, Nat.le_refl _, by show 41 * (2047 + 1) ≤ 84000; decide⟩
  have hs0 : (xs x).heap.size = g.1 + 0 := by rw [hg1, hxx]; rfl
  have hxao : z_ao (xs x) := by rw [hxx]; exact hao
  have hcell : (xR x).cells = 600000 := by rw [hxx]; rfl
  have hslot : (xR x).slots = 7302250 := by rw [hxx]; rfl
  have hSc : zS g x (fun i => (xs' i.toNat).toInt) (L : Int) := by
    refine ⟨L, xs', ?_, ?_, ?_, rfl, hL, fun j _ => ?_⟩
    · rw [hg2, hxx]; exact hX
    · rw [hg2, hxx]; exact hbl
    · rw [hg2]; unfold zA; rw [hg1]; exact Nat.not_le.mpr hbl
    · simp
  obtain ⟨h1, h2, hE, e1, e2, e3⟩ := pure_main (fun i => (xs' i.toNat).toInt) (L : Int) (by omega) (by omega) (fun i => r32_of _)
  have hexit : ∀ e : Hp, e = hE → ZW g x 4 157 e 157 304027 1362 [] [] := by
    intro e he
    refine z_iconst X dL_law_1362 kc_1 ?_
    intro H locs lsA hP hR hS hl hol hos
    have hf : ∀ q ∈ locs, s.heap.size ≤ q.base := fun q hq => by
      have := hS.2.2 q hq
      unfold zA at this
      rw [hg1] at this
      exact this
    subst hxx
    refine va_forget hf ?_
    refine W.widen (k := 600000) (n := 7302250) (by decide) (by decide) ?_
    exact lw_ret hx hb hr hlocks dL_law_1363
  have hloop : ZW g x 4 157 h2 157 304027 18 [(0, (2, -5)), (1, (2, 0)), (2, (2, 121)), (3, (0, 0))] [] :=
    z_loop (Z := fun q : Int × Hp => ZW g x 4 157 q.2 157 304027 18 [(0, (2, -5)), (1, (2, 0)), (2, (2, 121)), (3, (0, q.1))] []) (E := fun q => q = hE) (fun q y hb hk => z_Lw_L18 X (by decide) (fun i => (xs' i.toNat).toInt) (L : Int) hSc ⟨by rw [hcell]; decide, by rw [hslot]; decide⟩ (-5) 0 121 (fun q => q = hE) hexit q.1 q.2 y hb hk) LN (0, h2) hE e3 rfl
  have hwalk : ZW g x 4 0 h00 0 0 0 [(0, (2, -5))] [] := by
    refine z_new X hlin hs0 (n := 0) rfl nw_RL_7 dL_law_0 (by decide) (by rw [hcell]; decide) (by rw [hslot]; decide) ?_
    refine z_dup X ne2 dL_law_3 ?_
    refine z_callI X hlin hs0 (n := 1) rfl hxao ci_RL_9 dL_law_4 (o := 0) (by decide) (cn_X_new 2047 (by decide) hlin 0 1 (hnew h00 0) h1 e1) (as := []) rfl rfl (Nat.le_of_ble_eq_true rfl) ⟨by rw [hcell]; decide, by rw [hslot]; decide⟩ ?_
    refine z_astore_n X dL_law_7 (by decide) (by decide) (ls' := [(1, (2, 0)), (0, (2, -5))]) rfl ?_
    refine z_new X hlin hs0 (n := 121) rfl nw_RL_10 dL_law_8 (by decide) (by rw [hcell]; decide) (by rw [hslot]; decide) ?_
    refine z_dup X ne2 dL_law_11 ?_
    refine z_callI X hlin hs0 (n := 122) rfl hxao ci_RL_12 dL_law_12 (o := 121) (by decide) (cn_M_new 2047 (by decide) hlin 121 (hnew h1 121) h2 e2) (as := []) rfl rfl (Nat.le_of_ble_eq_true rfl) ⟨by rw [hcell]; decide, by rw [hslot]; decide⟩ ?_
    refine z_astore_n X dL_law_15 (by decide) (by decide) (ls' := [(2, (2, 121)), (1, (2, 0)), (0, (2, -5))]) rfl ?_
    refine z_iconst X dL_law_16 kc_0 ?_
    refine z_istore_n X dL_law_17 (by decide) (ls' := [(3, (0, 0)), (2, (2, 121)), (1, (2, 0)), (0, (2, -5))]) rfl ?_
    exact z_weak [3, 2, 1, 0] rfl hloop
  have hl := lv_entry ([.ref b]) (n := 4) (Nat.le_of_ble_eq_true rfl)
  rw [lg_entry_eq]
  generalize (lg_sl ([.ref b]) ++ List.replicate (4 - (lg_sl ([.ref b])).length) Slot.unset).toArray = lsA at hl ⊢
  have hl2 : lv_has lsA 4 (z_lv g [(0, (2, -5))]) := by
    have e : z_lv g [(0, (2, -5))] = [(0, .ref b)] := by
      show [(0, z_val g.2.1 (2, -5))] = _
      rw [z_val2 g.2.1 (by decide), hg2]
    rw [e]; exact hl
  have := hwalk s.heap [] lsA ⟨fun k q h => by simp [z_W] at h, z_D_lin hlin 0 h00⟩ z_R_00 (by rw [hxx]; exact va_S.rf) hl2 (fun q hq => by
    rcases List.mem_cons.mp hq with rfl | hq
    · exact trivial
    · cases hq) (fun t ht => by cases ht)
  rw [hxx] at this
  exact this
set_option maxHeartbeats 4000000 in
theorem lw_walk (l : Launch) (hflags : l.flags = flags0) (b : Addr) (xs : List Int32) : MetFree l x (headSpec (Jvm.Cond.code x code maxLocals ret :: tables_1) room_1) (lw_P b xs) (fun _ _ _ _ _ => True) lw_Q := by
  refine MetFree.of_bodyS (code := code) (maxLocals := maxLocals) (ret := ret) (by decide) ?_ ?_
  · intro args s m h hn
    obtain ⟨meth, c, h1, h2, h3, h4, h5, h6, -, -⟩ := Cond.code_spec hn (atoms_spec (ws := Jvm.Cond.code x code maxLocals ret :: tables_1) h _ List.mem_cons_self)
    exact ⟨meth, c, h1, h2, h3, h4, h5, h6⟩
  · intro p e s m args below meth c s₁ B hml0 hP _
    obtain ⟨rfl, hx, hbd, hgv⟩ := hP
    obtain ⟨scr, harrAt, hlist, hof, hsmall⟩ := hx
    obtain ⟨hcb, hkn, -, -⟩ := State.arrayAt?_spec harrAt
    have hown : s.vm.findClass R_law = some m.cls := findClass_of_methodNamed B.named
    have hts0 : ∀ c ∈ (Jvm.Cond.code x code maxLocals ret :: tables_1), c.before #[Value.ref b] s = true := atoms_spec (ws := Jvm.Cond.code x code maxLocals ret :: tables_1) B.pre
    have hts : ∀ w ∈ lw_tbl, w.before #[Value.ref b] s = true := k2_hts_sels lw_privs (fun w hw => hts0 w (List.mem_cons_of_mem _ hw)) lw_privs_ok
    have hml : c.maxLocals = 4 := B.maxLocals_eq (hts0 _ List.mem_cons_self)
    have X₀ : Stand p l e room_1 s m #[Value.ref b] below meth c s₁ [] 0 0 := Stand.of_body B
    have hh0 : s₁.heap = s.heap := by rw [B.state]; rfl
    have hsz : scr.slots.size = xs.length := by rw [← Array.length_toList, hlist, List.length_map]
    have hval : ∀ j : Nat, j < xs.length → scr.slots[j]? = some (.int (xs.getD j 0)) := fun j hj => by
      rw [← Array.getElem?_toList, hlist]
      simp [hj]
    have hbl : b < s.heap.size := (Array.getElem?_eq_some_iff.mp hcb).1
    have hX : va_X b xs.length (fun j => xs.getD j 0) s s.heap := ⟨scr, hcb, hof, hkn, hsz, hval⟩
    have K : W p l e room_1 s m #[Value.ref b] below meth c s₁.heap [] 0 0 (lw_Z below #[Value.ref b] s) (entryFrame m ([Value.ref b] : List Value).toArray 4) := by
      rw [hh0]
      exact whole_start l hflags hbd ⟨B.exec, B.bytes, B.returns, hml, hown, hts, hX, hbl, B.notSynchronized, hgv⟩
    obtain ⟨t, a1, o, b1, b2, b3⟩ := K s₁ rfl X₀
    exact ⟨t, o, a1, b1, b2, b3⟩
theorem lw_pre_spec {args : Array Value} {s : State} (h : (Jvm.Cond.and given_1 narrow_1).before args s = true) (hr : rest_1_c.before args s = true) : ∃ (b : Addr) (xs : List Int32), lw_P b xs args s := by
  have hs := flat_of_before _ h
  have hq := flat_of_before _ hr
  have hc : (Cond.count 1).before args s = true := hs _ (by decide +kernel)
  have harr : (Cond.arrayOf (.arg 0) .int).before args s = true := hs _ (by decide +kernel)
  have hle : (Cond.le (.length (.arg 0)) (.int 4096)).before args s = true := hs _ (by decide +kernel)
  have hlen : (Cond.isInt (.length (.arg 0))).before args s = true := hq _ (by decide +kernel)
  have hall : (Cond.all (.arg 0) (.isInt (.elem (.arg 0) (.index 0)))).before args s = true := hq _ (by decide +kernel)
  obtain ⟨b, xs, hb, hx⟩ := State.ints_of_pre rfl harr hlen hall
  have hsm : xs.length < 2 ^ 31 := hx.choose_spec.2.2.2
  have hev : (Term.length (.arg 0)).eval args s none [] s = some (.int xs.length.toInt32) := hx.length_eval hb
  have hv := Cond.le_ints hev (show (Term.int 4096).eval args s none [] s = some (.int 4096) from rfl)
  have hd : xs.length.toInt32 ≤ 4096 := by
    simpa [Cond.before, Cond.holds, hv] using hle
  have hN : xs.length ≤ 4096 := (Int32.ofNat_le_ofNat hsm (by decide)).mp (show Int32.ofNat xs.length ≤ Int32.ofNat 4096 from hd)
  exact ⟨b, xs, Cond.one_arg hc (show args[0]? = some (.ref b) from hb), hx, hN, h⟩
theorem lw_comes (l : Launch) (hflags : l.flags = flags0) : Comes l x (Jvm.Cond.code x code maxLocals ret :: tables_1) room_1 (fun tb e args s => Calls_1 tb e args s ∧ rest_1 tb e args s ∧ Pre_1 tb e args s)
    (fun _ _ args s o t => lw_Q args s o t) := by
  intro p e ha hc hk s m args below hf hfit hheap happ hpre
  obtain ⟨b, xs, hP⟩ := lw_pre_spec hpre.2.2 hpre.2.1
  obtain ⟨k, o, h1, h2, h3, hQ⟩ := lw_walk l hflags b xs p e ha hc hk s m args below hf ((Spec.applies_iff_loose hf).mp happ).1 hP trivial
  exact ⟨k, o, h1, h2, h3, hQ⟩
theorem lw_frame {s t : State} {o : Outcome} {args : Array Value} (h : Framed s o t [] 600000 7302250) :
    Framed s o t (fieldLocs frame_1_writes args s ++ arrayLocs frame_1_arrays args s ++ staticLocs frame_1_statics s) 600000 7302250 := h
theorem lw_limb (L : Cond) (hL : ∀ (args : Array Value) (s t : State), L.after args s (.returned (some (.int 1))) t = true) :
    ArmFor flags0 classFile x code maxLocals ret World_1 tables_1 room_1 Calls_1 rest_1 Pre_1
      (fun tb e a s o t => postC L tb e a s o t ∧ Framed s o t (fieldLocs frame_1_writes a s ++ arrayLocs frame_1_arrays a s ++ staticLocs frame_1_statics s) 600000 7302250) := by
  intro l hflags _ _ p e ha hc hk s m args below hf hfit hheap happ hpre
  obtain ⟨k, o, h1, h2, h3, rfl, hF⟩ := lw_comes l hflags p e ha hc hk s m args below hf hfit hheap happ hpre
  exact ⟨k, _, h1, h2, h3, hL args s _, lw_frame hF⟩
theorem i_vc : Claimed_1_1 ∧ Claimed_1_2 := ⟨lw_limb limb_1_1 (fun args s t => by simp [limb_1_1, Cond.after, Cond.holds, Cond.value]), lw_limb limb_1_2 (fun args s t => Cond.after_iff.mpr (by
  first | (rw [show limb_1_2 = Cond.eq .result (.int 1) from rfl, Cond.eq_ints (x := 1) (y := 1) rfl rfl]; simp; done) | (simp [limb_1_2, Cond.value, Term.eval]; done)))⟩
