/-! returns, contracts, calls -/
def z_post (g : GP) (n' : Nat) (h' : Hp) (rv : Option TV) : Array Value → State → Outcome → State → Prop := fun _ st oc t => oc = .returned (rv.map (z_val g.2.1)) ∧ (∀ u ∈ rv, z_ok u) ∧ z_P g n' h' t.heap ∧ z_R h' ∧ va_F (zA g) st t
def z_pre (g : GP) (n : Nat) (h : Hp) (as : List TV) : Array Value → State → Prop := va_Pc (z_st g as) (fun U => z_G g U ∧ z_P g n h U.heap ∧ z_R h ∧ z_oks as)
def zE (g : GP) (x : CX) (ret : Option FieldType) (mc ms n' : Nat) (h' : Hp) (rv : Option TV) : Prop := (xme x).sig.returnType = ret ∧ xQ x = MQ (xb x) (z_post g n' h' rv) (xa x) (xs x) mc ms (zA g)
def zM (l : Launch) (y : MethodName) (cc : ByteArray) (maxL : Nat) (ret : Option FieldType) (d mc ms : Nat) (g : GP) (n : Nat) (h : Hp) (as : List TV) (n' : Nat) (h' : Hp) (rv : Option TV) : Prop :=
  Met l y (Cond.code y cc maxL ret :: zT) { frames := d, cells := mc, slots := ms, locals := 41 * d } (z_pre g n h as) (z_post g n' h' rv) mc ms (zA g)
def z_args : Nat → List TV → List (Nat × TV)
  | _, [] => []
  | i, t :: ts => (i, t) :: z_args (if t.1 = 1 then i + 2 else i + 1) ts
theorem z_args_lv (g : GP) : ∀ (as : List TV) (i : Nat), z_lv g (z_args i as) = lv_args i (z_st g as)
  | [], _ => rfl
  | t :: ts, i => by
    have h := z_args_lv g ts (if t.1 = 1 then i + 2 else i + 1)
    show (i, z_val g.2.1 t) :: z_lv g (z_args (if t.1 = 1 then i + 2 else i + 1) ts) = (i, z_val g.2.1 t) :: lv_args (if (z_val g.2.1 t).category = 2 then i + 2 else i + 1) (z_st g ts)
    rw [h, z_val_cat]
    by_cases e : t.1 = 1 <;> simp [e]
theorem z_args_ok : ∀ (as : List TV) (i : Nat), z_oks as → z_okl (z_args i as)
  | [], _, _ => fun q hq => by cases hq
  | t :: ts, i, h => fun q hq => by
    rcases List.mem_cons.mp hq with rfl | hq
    · exact ok1 h
    · exact z_args_ok ts _ (okT h) q hq
def z_wd (as : List TV) : Nat := (as.map (fun t => if t.1 = 1 then 2 else 1)).sum
theorem z_wd_cat (g : GP) (as : List TV) : ((z_st g as).map fun v => v.category).sum = z_wd as := by
  unfold z_wd z_st
  rw [List.map_map]
  congr 1
  apply List.map_congr_left
  intro t _
  exact z_val_cat g.2.1 t
theorem z_wd_sl (g : GP) : ∀ as : List TV, (lg_sl (z_st g as)).length = z_wd as
  | [] => rfl
  | t :: ts => by
    have h := z_wd_sl g ts
    unfold lg_sl z_st z_wd at *
    simp only [List.map_cons, List.flatMap_cons, List.length_append, List.sum_cons, h, z_val_cat]
    by_cases e : t.1 = 1 <;> simp [e]
theorem z_start {l : Launch} {y : MethodName} {cc : ByteArray} {maxL : Nat} {ret : Option FieldType} {d mc ms : Nat} {g : GP} {n : Nat} {h : Hp} {as : List TV} {n' : Nat} {h' : Hp} {rv : Option TV} (hy : plainName y.cls = true) (hnl : z_wd as ≤ maxL)
    (body : ∀ x : CX, zX g x y.cls cc maxL d → zE g x ret mc ms n' h' rv → (xme x).name = y.name → (xR x).cells = mc → (xR x).slots = ms → xl x = l → ZW g x maxL n h 0 0 0 (z_args 0 as) []) : zM l y cc maxL ret d mc ms g n h as n' h' rv := by
  refine Met.ofW (cc := cc) (maxL := maxL) (ret := ret) hy rfl ?_
  intro p e s m args below meth c s₁ B hml hv
  obtain ⟨rfl, hG, hP, hR, hok⟩ := hv
  have hts := atoms_spec (ws := Cond.code y cc maxL ret :: zT) B.pre
  have hl := lv_entry (z_st g as) (n := maxL) (by rw [z_wd_sl]; exact hnl)
  rw [lg_entry_eq]
  generalize (lg_sl (z_st g as) ++ List.replicate (maxL - (lg_sl (z_st g as)).length) Slot.unset).toArray = lsA at hl ⊢
  rw [← z_args_lv] at hl
  exact body (p, l, e, { frames := d, cells := mc, slots := ms, locals := 41 * d }, s, m, (z_st g as).toArray, below, meth, c, MQ below (z_post g n' h' rv) (z_st g as).toArray s mc ms (zA g)) ⟨B.exec, B.bytes, hml, findClass_of_methodNamed B.named, fun w hw hg => hts w (List.mem_cons_of_mem _ (zT_in hw hg)), hG, B.notSynchronized, Nat.le_refl _, Nat.le_refl _⟩ ⟨B.returns, rfl⟩ (name_of_methodNamed B.named B.method).1 rfl rfl rfl s.heap [] lsA hP hR va_S.rf hl (z_args_ok as 0 hok) (fun _ h => by cases h)
section CALL
variable {g : GP} {x : CX} {own : String} {cc : ByteArray} {nL d n : Nat} {h : Hp} {ce sl pc : Nat} {ls : List (Nat × TV)} {st : List TV}
theorem z_iret (X : zX g x own cc nL d) {v : Int} (E : zE g x (some .int) ce sl n h (some (0, v))) (hd : decode cc pc = .ok (.ireturn, 1)) : ZW g x nL n h ce sl pc ls [(0, v)] := by
  intro H locs lsA hP hR hS hl hol hos
  rw [E.2]
  exact W.iret (v := i32 v) X.1 X.2.1 E.1 (fun t ht hW => ⟨rfl, fun u hu => by cases hu; exact ok1 hos, by rw [ht]; exact hP, hR, hS.F ht⟩) hS.2.2 hd X.2.2.2.2.2.2.1
theorem z_zret (X : zX g x own cc nL d) {v : Int} (E : zE g x (some .boolean) ce sl n h (some (0, v))) (hv : v = 0 ∨ v = 1) (hd : decode cc pc = .ok (.ireturn, 1)) : ZW g x nL n h ce sl pc ls [(0, v)] := by
  intro H locs lsA hP hR hS hl hol hos
  rw [E.2]
  exact W.zret (v := i32 v) X.1 X.2.1 E.1 (by rcases hv with rfl | rfl <;> rfl) (fun t ht hW => ⟨rfl, fun u hu => by cases hu; exact ok1 hos, by rw [ht]; exact hP, hR, hS.F ht⟩) hS.2.2 hd X.2.2.2.2.2.2.1
theorem z_lret (X : zX g x own cc nL d) {v : Int} (E : zE g x (some .long) ce sl n h (some (1, v))) (hd : decode cc pc = .ok (.lreturn, 1)) : ZW g x nL n h ce sl pc ls [(1, v)] := by
  intro H locs lsA hP hR hS hl hol hos
  rw [E.2]
  exact W.lret (v := i64 v) X.1 X.2.1 E.1 (fun t ht hW => ⟨rfl, fun u hu => by cases hu; exact ok1 hos, by rw [ht]; exact hP, hR, hS.F ht⟩) hS.2.2 hd X.2.2.2.2.2.2.1
theorem z_vret (X : zX g x own cc nL d) (E : zE g x none ce sl n h none) (hd : decode cc pc = .ok (.return_, 1)) : ZW g x nL n h ce sl pc ls [] := by
  intro H locs lsA hP hR hS hl hol hos
  rw [E.2]
  exact W.vret X.1 X.2.1 E.1 (fun t ht hW => ⟨rfl, fun u hu => (by cases hu), by rw [ht]; exact hP, hR, hS.F ht⟩) hS.2.2 hd X.2.2.2.2.2.2.1
theorem z_blind {as : List TV} : FrameBlind (z_pre g n h as) := by
  intro a U gf mk q
  obtain ⟨q0, q1, q2⟩ := q
  exact ⟨q0, z_G_call q1, q2⟩
theorem z_preU (X : zX g x own cc nL d) {as : List TV} {H : Heap} {locs : List Loc} (hP : z_P g n h H) (hR : z_R h) (hS : va_S (zA g) (xs x).heap H locs) (hok : z_oks as) : ∀ U : State, U.heap = H → (xs x).WarmedH U.vm → z_pre g n h as (z_st g as).toArray U :=
  fun U hU hW => ⟨rfl, z_G_moved hW (by rw [hU]; exact hS.1) (fun a h1 h2 => by rw [hU]; exact hS.2.1 a h1 h2) X.2.2.2.2.2.1, by rw [hU]; exact hP, hR, hok⟩
theorem z_after {mc ms n1 : Nat} {h1 : Hp} {rv : Option TV} {a : Array Value} {H : Heap} {locs : List Loc} {lsA : Array Slot} {st0 rest : List Value} (hr : va_Run (xp x) (xl x) (xe x) (xR x) (xs x) (xm x) (xa x) (xb x) (xme x) (xc x) H locs ce sl mc ms (F0 (xm x) pc lsA st0) rest (z_post g n1 h1 rv a) (zA g)) (hS : va_S (zA g) (xs x).heap H locs)
    (kk : ∀ (H1 : Heap) (locs1 : List Loc), z_P g n1 h1 H1 → z_R h1 → (∀ u ∈ rv, z_ok u) → va_S (zA g) (xs x).heap H1 locs1 → W (xp x) (xl x) (xe x) (xR x) (xs x) (xm x) (xa x) (xb x) (xme x) (xc x) H1 locs1 (ce + mc) (sl + ms) (xQ x) (F0 (xm x) (pc + 3) lsA ((rv.map (z_val g.2.1)).toList ++ rest))) :
    W (xp x) (xl x) (xe x) (xR x) (xs x) (xm x) (xa x) (xb x) (xme x) (xc x) H locs ce sl (xQ x) (F0 (xm x) pc lsA st0) := by
  intro T hT X
  obtain ⟨v, st₀, t, T', L, h0, X', hL, e1, e2, ⟨hv, hok, hP, hR, hz, hk⟩, stp⟩ := hr T hT X
  cases hv
  rw [h0] at hz hk
  obtain ⟨t2, a1, b1⟩ := kk T'.heap (locs ++ L) (by rw [e1]; exact hP) hR hok ⟨Nat.le_trans hS.1 (by rw [e1]; exact hz), fun q h1 h2 => by rw [e1, hk q (Nat.lt_of_lt_of_le h1 hS.1) h2]; exact hS.2.1 q h1 h2, fun q hq => by
      rcases List.mem_append.mp hq with h | h
      · exact hS.2.2 q h
      · exact hL q h⟩ T' rfl X'
  exact ⟨t2, stp t2 a1, b1⟩
/-- what a call's link says: a virtual one, by the class of the receiver -/
def zCV (own : String) (ix : Nat) (c : Int) (y : MethodName) (cc' : ByteArray) (maxL' : Nat) (ret' : Option FieldType) (np : Nat) : Prop := ∃ (C : String) (T : u_T) (N : Nat), vwCl[c.toNat]? = some (C, T, N) ∧ c < 20 ∧ Cond.methodLink own ix y ∈ lw_tbl ∧ Cond.instanceMethod y ∈ lw_tbl ∧ Cond.selects C y y ∈ lw_tbl ∧ Cond.initialized C ∈ lw_tbl ∧ Cond.code y cc' maxL' ret' ∈ lw_tbl ∧ (y.cls = C ∧ y.cls ≠ "java/lang/invoke/MethodHandle" ∧ y.cls ≠ "java/lang/invoke/VarHandle" ∧ (parseMethodDescriptor y.desc).map (fun d => d.parameters.length) = some np) ∧ maxL' ≤ 22
theorem zT_good : ∀ w ∈ zT, w ∈ zT ∧ ((w.onTables && w.keeps) = true ∨ ∃ ty, w = .arrayClass ty) := fun w hw => ⟨hw, good_of_word (List.mem_filter.mp hw).2⟩
theorem zT_in5 {a b c d : Cond} {ws : List Cond} (ha : a ∈ zT) (hb : b ∈ zT) (hc : c ∈ zT) (hd : d ∈ zT) (hw : ∀ w ∈ ws, w ∈ zT) : GoodIn zT ([a, b, c, d] ++ ws) := by
  intro w h
  refine zT_good w ?_
  simp only [List.cons_append, List.nil_append, List.mem_cons] at h
  rcases h with rfl | rfl | rfl | rfl | h
  · exact ha
  · exact hb
  · exact hc
  · exact hd
  · exact hw w h
theorem zT_in4 {a b c : Cond} {ws : List Cond} (ha : a ∈ zT) (hb : b ∈ zT) (hc : c ∈ zT) (hw : ∀ w ∈ ws, w ∈ zT) : GoodIn zT ([a, b, c] ++ ws) := by
  intro w h
  refine zT_good w ?_
  simp only [List.cons_append, List.nil_append, List.mem_cons] at h
  rcases h with rfl | rfl | rfl | h
  · exact ha
  · exact hb
  · exact hc
  · exact hw w h
theorem zT_cons {y : MethodName} {cc' : ByteArray} {maxL' : Nat} {ret' : Option FieldType} (h : Cond.code y cc' maxL' ret' ∈ lw_tbl) : ∀ w ∈ Cond.code y cc' maxL' ret' :: zT, w ∈ zT := by
  intro w hw
  rcases List.mem_cons.mp hw with rfl | hw
  · exact zT_in h rfl
  · exact hw
theorem z_st_rev (g : GP) (as : List TV) : (z_st g as).reverse = z_st g as.reverse := by simp [z_st]
theorem z_st_app (g : GP) (a b : List TV) : z_st g (a ++ b) = z_st g a ++ z_st g b := by simp [z_st]
theorem ok_app1 {a b : List TV} (h : z_oks (a ++ b)) : z_oks a := fun t ht => h t (List.mem_append_left _ ht)
theorem ok_app2 {a b : List TV} (h : z_oks (a ++ b)) : z_oks b := fun t ht => h t (List.mem_append_right _ ht)
theorem ok_rev {a : List TV} (h : z_oks a.reverse) : z_oks a := fun t ht => h t (List.mem_reverse.mpr ht)
theorem ok_opt {rv : Option TV} {rest : List TV} (h1 : ∀ u ∈ rv, z_ok u) (h2 : z_oks rest) : z_oks (rv.toList ++ rest) := fun t ht => by
  rcases List.mem_append.mp ht with h | h
  · cases rv with
    | none => cases h
    | some u => exact h1 t (by simpa [eq_comm] using h)
  · exact h2 t h
theorem z_st_opt (g : GP) (rv : Option TV) (rest : List TV) : (rv.map (z_val g.2.1)).toList ++ z_st g rest = z_st g (rv.toList ++ rest) := by
  cases rv <;> rfl
theorem z_callV (X : zX g x own cc nL (d + 1)) {ix : Nat} {c : Int} {y : MethodName} {cc' : ByteArray} {maxL' : Nat} {ret' : Option FieldType} {np mc ms n1 : Nat} {h1 : Hp} {rv : Option TV} {as rest : List TV} {o : Int} (F : zCV own ix c y cc' maxL' ret' np) (hd : decode cc pc = .ok (.invokevirtual ix, 3)) (ho : kK o = c) (hn : o < n)
    (hM : zM (xl x) y cc' maxL' ret' d mc ms g n h ((2, o) :: as) n1 h1 rv) (hst : st = as.reverse ++ (2, o) :: rest) (hnp : as.length = np) (hw : z_wd rest ≤ 8) (hf : ce + mc ≤ (xR x).cells ∧ sl + ms ≤ (xR x).slots) (k : ZW g x nL n1 h1 (ce + mc) (sl + ms) (pc + 3) ls (rv.toList ++ rest)) : ZW g x nL n h ce sl pc ls st := by
  subst hst
  intro H locs lsA hP hR hS hl hol hos
  obtain ⟨C, T, N, f1, f2, f3, f4, f5, f6, f7, f8, f9⟩ := F
  have h0 := (kK_pos (o := o) (by rw [ho]; omega)).1
  have hE := z_cell (g := g) (h := h) h0 hn
  rw [z_E_obj ho f2] at hE
  have hokA : z_oks ((2, o) :: as) := okC (show z_ok (2, o) from trivial) (ok_rev (ok_app1 hos))
  have hokR : z_oks rest := okT (ok_app2 hos)
  have hp := z_preU X (as := (2, o) :: as) hP hR hS hokA
  have ea : z_st g ((2, o) :: as) = .ref (g.2.1 o) :: z_st g as := z_ref h0
  rw [ea] at hp
  have hr := va_runV (g := F0 (xm x) pc lsA (z_st g (as.reverse ++ (2, o) :: rest))) (rest := z_st g rest) (As := z_st g as) (b := g.2.1 o) (locs := locs) (cells := ce) (slots := sl) (e := xe x) (below := xb x) (meth := xme x) ⟨X.1, X.2.1, X.2.2.1, X.2.2.2.1, z_X_ts X⟩ hM
    (cwV np (z_X_ts X) (zT_in5 (zT_in f3 rfl) (zT_in f4 rfl) (zT_in f5 rfl) (zT_in f6 rfl) (zT_cons f7)) rfl rfl rfl f8 ⟨X.2.2.2.2.2.2.2.1, by have := X.2.2.2.2.2.2.2.2; show 8 + (maxL' + 11) + 41 * d ≤ _; omega⟩)
    ⟨z_blind, va_recv X.2.2.2.2.2.1.1 hP.1 f1 hE, hp⟩ rfl (by simp [z_st, hnp]) hl.1 (by rw [z_st_rev, z_st_app, z_ref h0]) (lv_room (by rw [z_wd_cat]; exact hw)) hd hf
  refine z_after hr hS (fun H1 locs1 q1 q2 q3 q4 => ?_)
  rw [z_st_opt]
  exact k H1 locs1 lsA q1 q2 q4 hl hol (ok_opt q3 hokR)
/-- a static one: of the own class, or of another one -/
def zCS (own : String) (ix : Nat) (y : MethodName) (cc' : ByteArray) (maxL' : Nat) (ret' : Option FieldType) (np : Nat) : Prop := Cond.methodLink own ix y ∈ lw_tbl ∧ Cond.static y ∈ lw_tbl ∧ Cond.initialized y.cls ∈ lw_tbl ∧ Cond.code y cc' maxL' ret' ∈ lw_tbl ∧ (y.cls ≠ "java/lang/invoke/MethodHandle" ∧ y.cls ≠ "java/lang/invoke/VarHandle" ∧ (parseMethodDescriptor y.desc).map (fun d => d.parameters.length) = some np) ∧ maxL' ≤ 22
theorem z_callS (X : zX g x own cc nL (d + 1)) {ix : Nat} {y : MethodName} {cc' : ByteArray} {maxL' : Nat} {ret' : Option FieldType} {np mc ms n1 : Nat} {h1 : Hp} {rv : Option TV} {as rest : List TV} (F : zCS own ix y cc' maxL' ret' np) (hd : decode cc pc = .ok (.invokestatic ix, 3))
    (hM : zM (xl x) y cc' maxL' ret' d mc ms g n h as n1 h1 rv) (hst : st = as.reverse ++ rest) (hnp : as.length = np) (hw : z_wd rest ≤ 8) (hf : ce + mc ≤ (xR x).cells ∧ sl + ms ≤ (xR x).slots) (k : ZW g x nL n1 h1 (ce + mc) (sl + ms) (pc + 3) ls (rv.toList ++ rest)) : ZW g x nL n h ce sl pc ls st := by
  subst hst
  intro H locs lsA hP hR hS hl hol hos
  obtain ⟨f3, f4, f6, f7, f8, f9⟩ := F
  have hokA : z_oks as := ok_rev (ok_app1 hos)
  have hokR : z_oks rest := ok_app2 hos
  have hp := z_preU X (as := as) hP hR hS hokA
  have hr := va_runS (g := F0 (xm x) pc lsA (z_st g (as.reverse ++ rest))) (rest := z_st g rest) (As := z_st g as) (locs := locs) (cells := ce) (slots := sl) (e := xe x) (below := xb x) (meth := xme x) ⟨X.1, X.2.1, X.2.2.1, X.2.2.2.1, z_X_ts X⟩ hM
    (va_cwS np (z_X_ts X) (zT_in4 (zT_in f3 rfl) (zT_in f4 rfl) (zT_in f6 rfl) (zT_cons f7)) rfl rfl rfl f8 ⟨X.2.2.2.2.2.2.2.1, by have := X.2.2.2.2.2.2.2.2; show 8 + (maxL' + 11) + 41 * d ≤ _; omega⟩)
    ⟨z_blind, hp⟩ rfl (by simp [z_st, hnp]) hl.1 (by rw [z_st_rev, z_st_app]) (lv_room (by rw [z_wd_cat]; exact hw)) hd hf
  refine z_after hr hS (fun H1 locs1 q1 q2 q3 q4 => ?_)
  rw [z_st_opt]
  exact k H1 locs1 lsA q1 q2 q4 hl hol (ok_opt q3 hokR)
/-- a private static one of a nest mate -/
def zCSN (own host : String) (ix : Nat) (y : MethodName) (cc' : ByteArray) (maxL' : Nat) (ret' : Option FieldType) (np : Nat) : Prop := Cond.methodLinkNest own ix y host ∈ lw_tbl ∧ Cond.static y ∈ lw_tbl ∧ Cond.initialized y.cls ∈ lw_tbl ∧ Cond.code y cc' maxL' ret' ∈ lw_tbl ∧ (y.cls ≠ "java/lang/invoke/MethodHandle" ∧ y.cls ≠ "java/lang/invoke/VarHandle" ∧ (parseMethodDescriptor y.desc).map (fun d => d.parameters.length) = some np) ∧ maxL' ≤ 22
theorem z_callSN (X : zX g x own cc nL (d + 1)) {host : String} {ix : Nat} {y : MethodName} {cc' : ByteArray} {maxL' : Nat} {ret' : Option FieldType} {np mc ms n1 : Nat} {h1 : Hp} {rv : Option TV} {as rest : List TV} (F : zCSN own host ix y cc' maxL' ret' np) (hd : decode cc pc = .ok (.invokestatic ix, 3))
    (hM : zM (xl x) y cc' maxL' ret' d mc ms g n h as n1 h1 rv) (hst : st = as.reverse ++ rest) (hnp : as.length = np) (hw : z_wd rest ≤ 8) (hf : ce + mc ≤ (xR x).cells ∧ sl + ms ≤ (xR x).slots) (k : ZW g x nL n1 h1 (ce + mc) (sl + ms) (pc + 3) ls (rv.toList ++ rest)) : ZW g x nL n h ce sl pc ls st := by
  subst hst
  intro H locs lsA hP hR hS hl hol hos
  obtain ⟨f3, f4, f6, f7, f8, f9⟩ := F
  have hokA : z_oks as := ok_rev (ok_app1 hos)
  have hokR : z_oks rest := ok_app2 hos
  have hp := z_preU X (as := as) hP hR hS hokA
  have hr := va_runSN (g := F0 (xm x) pc lsA (z_st g (as.reverse ++ rest))) (rest := z_st g rest) (As := z_st g as) (locs := locs) (cells := ce) (slots := sl) (e := xe x) (below := xb x) (meth := xme x) ⟨X.1, X.2.1, X.2.2.1, X.2.2.2.1, z_X_ts X⟩ hM
    ⟨va_cnB np (z_X_ts X) (fun w hw => zT_good w (zT_cons f7 w hw)) rfl rfl rfl (X.2.2.2.2.2.1.2.1 _ f3 rfl) (X.2.2.2.2.1 _ f6 rfl) f8 ⟨X.2.2.2.2.2.2.2.1, by have := X.2.2.2.2.2.2.2.2; show 8 + (maxL' + 11) + 41 * d ≤ _; omega⟩, X.2.2.2.2.1 _ f4 rfl, trivial⟩
    ⟨z_blind, hp⟩ rfl (by simp [z_st, hnp]) hl.1 (by rw [z_st_rev, z_st_app]) (lv_room (by rw [z_wd_cat]; exact hw)) hd hf
  refine z_after hr hS (fun H1 locs1 q1 q2 q3 q4 => ?_)
  rw [z_st_opt]
  exact k H1 locs1 lsA q1 q2 q4 hl hol (ok_opt q3 hokR)
/-- an abstract method of 'owner', that the receiver's class has as y -/
def zCA (own : String) (ix : Nat) (c : Int) (xn y : MethodName) (cc' : ByteArray) (maxL' : Nat) (ret' : Option FieldType) (np : Nat) : Prop := ∃ (C : String) (T : u_T) (N : Nat), vwCl[c.toNat]? = some (C, T, N) ∧ c < 20 ∧ Cond.methodLink own ix xn ∈ lw_tbl ∧ Cond.sameMethod xn.cls xn.cls xn.name xn.desc ∈ lw_tbl ∧ Cond.selects C xn y ∈ lw_tbl ∧ Cond.instanceMethod y ∈ lw_tbl ∧ Cond.initialized y.cls ∈ lw_tbl ∧ Cond.code y cc' maxL' ret' ∈ lw_tbl ∧ Cond.declares xn ∈ lw_tbl ∧ (xn.cls ≠ "java/lang/invoke/MethodHandle" ∧ xn.cls ≠ "java/lang/invoke/VarHandle" ∧ (parseMethodDescriptor xn.desc).map (fun d => d.parameters.length) = some np) ∧ maxL' ≤ 22
theorem zT_in6 {a b c d e : Cond} {ws : List Cond} (ha : a ∈ zT) (hb : b ∈ zT) (hc : c ∈ zT) (hd : d ∈ zT) (he : e ∈ zT) (hw : ∀ w ∈ ws, w ∈ zT) : GoodIn zT ([a, b, c, d, e] ++ ws) := by
  intro w h
  refine zT_good w ?_
  simp only [List.cons_append, List.nil_append, List.mem_cons] at h
  rcases h with rfl | rfl | rfl | rfl | rfl | h
  · exact ha
  · exact hb
  · exact hc
  · exact hd
  · exact he
  · exact hw w h
theorem z_callA (X : zX g x own cc nL (d + 1)) {ix : Nat} {c : Int} {xn y : MethodName} {cc' : ByteArray} {maxL' : Nat} {ret' : Option FieldType} {np mc ms n1 : Nat} {h1 : Hp} {rv : Option TV} {as rest : List TV} {o : Int} (F : zCA own ix c xn y cc' maxL' ret' np) (hd : decode cc pc = .ok (.invokevirtual ix, 3)) (ho : kK o = c) (hn : o < n)
    (hM : zM (xl x) y cc' maxL' ret' d mc ms g n h ((2, o) :: as) n1 h1 rv) (hst : st = as.reverse ++ (2, o) :: rest) (hnp : as.length = np) (hw : z_wd rest ≤ 8) (hf : ce + mc ≤ (xR x).cells ∧ sl + ms ≤ (xR x).slots) (k : ZW g x nL n1 h1 (ce + mc) (sl + ms) (pc + 3) ls (rv.toList ++ rest)) : ZW g x nL n h ce sl pc ls st := by
  subst hst
  intro H locs lsA hP hR hS hl hol hos
  obtain ⟨C, T, N, f1, f2, f3, f4, f5, f6, f6', f7, f7', f8, f9⟩ := F
  have h0 := (kK_pos (o := o) (by rw [ho]; omega)).1
  have hE := z_cell (g := g) (h := h) h0 hn
  rw [z_E_obj ho f2] at hE
  have hokA : z_oks ((2, o) :: as) := okC (show z_ok (2, o) from trivial) (ok_rev (ok_app1 hos))
  have hokR : z_oks rest := okT (ok_app2 hos)
  have hp := z_preU X (as := (2, o) :: as) hP hR hS hokA
  have ea : z_st g ((2, o) :: as) = .ref (g.2.1 o) :: z_st g as := z_ref h0
  rw [ea] at hp
  have hr := va_runU (g := F0 (xm x) pc lsA (z_st g (as.reverse ++ (2, o) :: rest))) (rest := z_st g rest) (As := z_st g as) (b := g.2.1 o) (locs := locs) (cells := ce) (slots := sl) (e := xe x) (below := xb x) (meth := xme x) ⟨X.1, X.2.1, X.2.2.1, X.2.2.2.1, z_X_ts X⟩ hM
    (va_cwA (owner := xn.cls) np (z_X_ts X) (zT_in6 (zT_in f3 rfl) (zT_in f4 rfl) (zT_in f5 rfl) (zT_in f6 rfl) (zT_in f6' rfl) (zT_cons f7)) rfl rfl rfl (X.2.2.2.2.2.1.2.1 _ f7' rfl) f8 ⟨X.2.2.2.2.2.2.2.1, by have := X.2.2.2.2.2.2.2.2; show 8 + (maxL' + 11) + 41 * d ≤ _; omega⟩)
    ⟨z_blind, va_recv X.2.2.2.2.2.1.1 hP.1 f1 hE, hp⟩ rfl (by simp [z_st, hnp]) hl.1 (by rw [z_st_rev, z_st_app, z_ref h0]) (lv_room (by rw [z_wd_cat]; exact hw)) hd hf
  refine z_after hr hS (fun H1 locs1 q1 q2 q3 q4 => ?_)
  rw [z_st_opt]
  exact k H1 locs1 lsA q1 q2 q4 hl hol (ok_opt q3 hokR)
end CALL
