/-! constructors: contracts, calls -/
def z_ao (U : State) : Prop := (Cond.arrayOver (.array .int)).before #[] U = true
theorem z_ao_moved {s U : State} (hW : s.WarmedH U.vm) (h : z_ao s) : z_ao U := by
  have h1 : (Cond.arrayOver (.array .int)).before #[] (s.setVm U.vm) = true := Cond.before_shiftedOver (State.Shifted.of_warmed hW) _ rfl h
  exact h1
def z_preN (g : GP) (n : Nat) (h : Hp) (as : List TV) : Array Value → State → Prop := fun a U => z_pre g n h as a U ∧ U.heap.size = g.1 + n ∧ z_ao U
def zN (l : Launch) (y : MethodName) (cc : ByteArray) (maxL d mc ms : Nat) (g : GP) (n : Nat) (h : Hp) (as : List TV) (n' : Nat) (h' : Hp) : Prop :=
  Met l y (Cond.code y cc maxL none :: zT) { frames := d, cells := mc, slots := ms, locals := 41 * d } (z_preN g n h as) (z_post g n' h' none) mc ms (zA g)
theorem z_startN {l : Launch} {y : MethodName} {cc : ByteArray} {maxL d mc ms : Nat} {g : GP} {n : Nat} {h : Hp} {as : List TV} {n' : Nat} {h' : Hp} (hy : plainName y.cls = true) (hnl : z_wd as ≤ maxL)
    (body : ∀ x : CX, zX g x y.cls cc maxL d → zE g x none mc ms n' h' none → (xme x).name = y.name → (xR x).cells = mc → (xR x).slots = ms → (xs x).heap.size = g.1 + n → z_ao (xs x) → xl x = l → ZW g x maxL n h 0 0 0 (z_args 0 as) []) : zN l y cc maxL d mc ms g n h as n' h' := by
  refine Met.ofW (cc := cc) (maxL := maxL) (ret := none) hy rfl ?_
  intro p e s m args below meth c s₁ B hml hv
  obtain ⟨⟨rfl, hG, hP, hR, hok⟩, hsz, hao⟩ := hv
  have hts := atoms_spec (ws := Cond.code y cc maxL none :: zT) B.pre
  have hl := lv_entry (z_st g as) (n := maxL) (by rw [z_wd_sl]; exact hnl)
  rw [lg_entry_eq]
  generalize (lg_sl (z_st g as) ++ List.replicate (maxL - (lg_sl (z_st g as)).length) Slot.unset).toArray = lsA at hl ⊢
  rw [← z_args_lv] at hl
  exact body (p, l, e, { frames := d, cells := mc, slots := ms, locals := 41 * d }, s, m, (z_st g as).toArray, below, meth, c, MQ below (z_post g n' h' none) (z_st g as).toArray s mc ms (zA g)) ⟨B.exec, B.bytes, hml, findClass_of_methodNamed B.named, fun w hw hg => hts w (List.mem_cons_of_mem _ (zT_in hw hg)), hG, B.notSynchronized, Nat.le_refl _, Nat.le_refl _⟩ ⟨B.returns, rfl⟩ (name_of_methodNamed B.named B.method).1 rfl rfl hsz hao rfl s.heap [] lsA hP hR va_S.rf hl (z_args_ok as 0 hok) (fun _ h => by cases h)
section INIT
variable {g : GP} {x : CX} {own : String} {cc : ByteArray} {nL d n n0 : Nat} {h : Hp} {ce sl pc : Nat} {ls : List (Nat × TV)} {st : List TV}
theorem z_blindN {as : List TV} : FrameBlind (z_preN g n h as) := by
  intro a U gf mk q
  obtain ⟨⟨q0, q1, q2⟩, q3⟩ := q
  exact ⟨⟨q0, z_G_call q1, q2⟩, q3⟩
def zCI (own : String) (ix : Nat) (y : MethodName) (cc' : ByteArray) (maxL' np : Nat) : Prop := Cond.methodLink own ix y ∈ lw_tbl ∧ Cond.instanceMethod y ∈ lw_tbl ∧ Cond.initialized y.cls ∈ lw_tbl ∧ Cond.code y cc' maxL' none ∈ lw_tbl ∧ y.name = "<init>" ∧ (y.cls ≠ "java/lang/invoke/MethodHandle" ∧ y.cls ≠ "java/lang/invoke/VarHandle" ∧ (parseMethodDescriptor y.desc).map (fun d => d.parameters.length) = some np) ∧ maxL' ≤ 22
theorem z_callI (X : zX g x own cc nL (d + 1)) (hlin : z_lin g) (hs0 : (xs x).heap.size = g.1 + n0) (hn : n = n0 + ce) (hao : z_ao (xs x)) {ix : Nat} {y : MethodName} {cc' : ByteArray} {maxL' np mc ms n1 : Nat} {h1 : Hp} {as rest : List TV} {o : Int} (F : zCI own ix y cc' maxL' np) (hd : decode cc pc = .ok (.invokespecial ix, 3)) (ho : 0 ≤ o)
    (hM : zN (xl x) y cc' maxL' d mc ms g n h ((2, o) :: as) n1 h1) (hst : st = as.reverse ++ (2, o) :: rest) (hnp : as.length = np) (hw : z_wd rest ≤ 8) (hf : ce + mc ≤ (xR x).cells ∧ sl + ms ≤ (xR x).slots) (k : ZW g x nL n1 h1 (ce + mc) (sl + ms) (pc + 3) ls rest) : ZW g x nL n h ce sl pc ls st := by
  subst hst
  intro H locs lsA hP hR hS hl hol hos T hT XS
  obtain ⟨f3, f4, f6, f7, f5, f8, f9⟩ := F
  have hsz := z_size hlin hs0 hn hP hT XS hS
  have hokA : z_oks ((2, o) :: as) := okC (show z_ok (2, o) from trivial) (ok_rev (ok_app1 hos))
  have hokR : z_oks rest := okT (ok_app2 hos)
  have hp := z_preU X (as := (2, o) :: as) hP hR hS hokA
  have ea : z_st g ((2, o) :: as) = .ref (g.2.1 o) :: z_st g as := z_ref ho
  rw [ea] at hp
  have hr := va_runI (g := F0 (xm x) pc lsA (z_st g (as.reverse ++ (2, o) :: rest))) (rest := z_st g rest) (As := z_st g as) (b := g.2.1 o) (H := H) (locs := locs) (cells := ce) (slots := sl) (e := xe x) (below := xb x) (meth := xme x) ⟨X.1, X.2.1, X.2.2.1, X.2.2.2.1, z_X_ts X⟩ hM
    (cwI np (z_X_ts X) (fun w hw => zT_good w (zT_cons f7 w hw)) rfl rfl rfl (X.2.2.2.2.1 _ f6 rfl) (X.2.2.2.2.1 _ f3 rfl) (X.2.2.2.2.1 _ f4 rfl) f5 f8 ⟨X.2.2.2.2.2.2.2.1, by have := X.2.2.2.2.2.2.2.2; show 8 + (maxL' + 11) + 41 * d ≤ _; omega⟩)
    ⟨z_blindN, fun U hU hW => ⟨hp U hU hW, by rw [hU]; exact hsz, z_ao_moved hW hao⟩⟩ rfl (by simp [z_st, hnp]) hl.1 (by rw [z_st_rev, z_st_app, z_ref ho]) (lv_room (by rw [z_wd_cat]; exact hw)) hd hf
  refine z_after hr hS (fun H1 locs1 q1 q2 q3 q4 => ?_) T hT XS
  exact k H1 locs1 lsA q1 q2 q4 hl hol hokR
def zCIN (own host : String) (ix : Nat) (y : MethodName) (cc' : ByteArray) (maxL' np : Nat) : Prop := Cond.methodLinkNest own ix y host ∈ lw_tbl ∧ Cond.instanceMethod y ∈ lw_tbl ∧ Cond.initialized y.cls ∈ lw_tbl ∧ Cond.code y cc' maxL' none ∈ lw_tbl ∧ y.name = "<init>" ∧ (y.cls ≠ "java/lang/invoke/MethodHandle" ∧ y.cls ≠ "java/lang/invoke/VarHandle" ∧ (parseMethodDescriptor y.desc).map (fun d => d.parameters.length) = some np) ∧ maxL' ≤ 22
theorem z_callIN (X : zX g x own cc nL (d + 1)) (hlin : z_lin g) (hs0 : (xs x).heap.size = g.1 + n0) (hn : n = n0 + ce) (hao : z_ao (xs x)) {ix : Nat} {host : String} {y : MethodName} {cc' : ByteArray} {maxL' np mc ms n1 : Nat} {h1 : Hp} {as rest : List TV} {o : Int} (F : zCIN own host ix y cc' maxL' np) (hd : decode cc pc = .ok (.invokespecial ix, 3)) (ho : 0 ≤ o)
    (hM : zN (xl x) y cc' maxL' d mc ms g n h ((2, o) :: as) n1 h1) (hst : st = as.reverse ++ (2, o) :: rest) (hnp : as.length = np) (hw : z_wd rest ≤ 8) (hf : ce + mc ≤ (xR x).cells ∧ sl + ms ≤ (xR x).slots) (k : ZW g x nL n1 h1 (ce + mc) (sl + ms) (pc + 3) ls rest) : ZW g x nL n h ce sl pc ls st := by
  subst hst
  intro H locs lsA hP hR hS hl hol hos T hT XS
  obtain ⟨f3, f4, f6, f7, f5, f8, f9⟩ := F
  have hsz := z_size hlin hs0 hn hP hT XS hS
  have hokA : z_oks ((2, o) :: as) := okC (show z_ok (2, o) from trivial) (ok_rev (ok_app1 hos))
  have hokR : z_oks rest := okT (ok_app2 hos)
  have hp := z_preU X (as := (2, o) :: as) hP hR hS hokA
  have ea : z_st g ((2, o) :: as) = .ref (g.2.1 o) :: z_st g as := z_ref ho
  rw [ea] at hp
  have hr := va_runIN (g := F0 (xm x) pc lsA (z_st g (as.reverse ++ (2, o) :: rest))) (rest := z_st g rest) (As := z_st g as) (b := g.2.1 o) (H := H) (locs := locs) (cells := ce) (slots := sl) (e := xe x) (below := xb x) (meth := xme x) ⟨X.1, X.2.1, X.2.2.1, X.2.2.2.1, z_X_ts X⟩ hM
    ⟨va_cnB np (z_X_ts X) (fun w hw => zT_good w (zT_cons f7 w hw)) rfl rfl rfl (X.2.2.2.2.2.1.2.1 _ f3 rfl) (X.2.2.2.2.1 _ f6 rfl) f8 ⟨X.2.2.2.2.2.2.2.1, by have := X.2.2.2.2.2.2.2.2; show 8 + (maxL' + 11) + 41 * d ≤ _; omega⟩, f5, X.2.2.2.2.1 _ f4 rfl⟩
    ⟨z_blindN, fun U hU hW => ⟨hp U hU hW, by rw [hU]; exact hsz, z_ao_moved hW hao⟩⟩ rfl (by simp [z_st, hnp]) hl.1 (by rw [z_st_rev, z_st_app, z_ref ho]) (lv_room (by rw [z_wd_cat]; exact hw)) hd hf
  refine z_after hr hS (fun H1 locs1 q1 q2 q3 q4 => ?_) T hT XS
  exact k H1 locs1 lsA q1 q2 q4 hl hol hokR
theorem z_obj (X : zX g x own cc nL (d + 1)) {ix : Nat} {o : Int} (hw1 : Cond.methodLink own ix Lib.objectInit ∈ lw_tbl) (hw2 : Cond.instanceMethod Lib.objectInit ∈ lw_tbl) (hw3 : Cond.code Lib.objectInit ⟨#[0xb1]⟩ 1 none ∈ lw_tbl) (hd : decode cc pc = .ok (.invokespecial ix, 3)) (ho : 0 ≤ o) (hw : z_wd st ≤ 8) (k : ZW g x nL n h ce sl (pc + 3) ls st) : ZW g x nL n h ce sl pc ls ((2, o) :: st) := by
  intro H locs lsA hP hR hS hl hol hos
  have hlo := X.2.2.2.2.2.2.2.2
  rw [z_ref ho]
  refine W.objInit X.1 X.2.1 X.2.2.2.1 (X.2.2.2.2.1 _ hw1 rfl) (X.2.2.2.2.1 _ hw2 rfl) (X.2.2.2.2.1 _ hw3 rfl) rfl (hl.1.trans X.2.2.1.symm) rfl hd (Nat.le_trans (Nat.le_add_left 1 d) X.2.2.2.2.2.2.2.1) ?_ (k H locs lsA hP hR hS hl hol (okT hos))
  have h1 := lv_room (m := xm x) (pc := pc) (ls := lsA) (rest := z_st g st) (st := z_st g st) (by rw [z_wd_cat]; exact hw)
  have : 2 * (F0 (xm x) pc lsA (.ref (g.2.1 o) :: z_st g st)).monitorRoom = 2 * (F0 (xm x) pc lsA (z_st g st)).monitorRoom := rfl
  omega
theorem z_maxG (X : zX g x own cc nL (d + 1)) {ix : Nat} {a b : Int} (F : zMM own ix Lib.Math.max.name Lib.Math.max.code 2 (some .int)) (hd : decode cc pc = .ok (.invokestatic ix, 3)) (hw : z_wd st ≤ 8) (hc : ce ≤ (xR x).cells) (hs : sl ≤ (xR x).slots) (k : ZW g x nL n h ce sl (pc + 3) ls ((0, max a b) :: st)) : ZW g x nL n h ce sl pc ls ((0, b) :: (0, a) :: st) := by
  intro H locs lsA hP hR hS hl hol hos
  have hq := k H locs lsA hP hR hS hl hol (okI (r32_max (okI2 hos) (okI1 hos)) (okT (okT hos)))
  have hlo := X.2.2.2.2.2.2.2.2
  refine va_mmax X.1 X.2.1 (X.2.2.1.trans hl.1.symm) X.2.2.2.1 (X.2.2.2.2.1 _ F.1 rfl) (X.2.2.2.2.1 _ F.2.1 rfl) (X.2.2.2.2.1 _ F.2.2.1 rfl) (X.2.2.2.2.1 _ F.2.2.2 rfl) (Nat.le_trans (Nat.le_add_left 1 d) X.2.2.2.2.2.2.2.1) (by have := z_wd_cat g st; unfold z_st at this; omega) hc hs hd ?_
  rw [i32_max (okI2 hos) (okI1 hos)]
  exact hq
end INIT
