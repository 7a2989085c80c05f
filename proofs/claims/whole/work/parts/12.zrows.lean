/-! the judgement ZW: the machine in a method's frame, over the world; rows of one instruction -/
def sJ (i : Int) : Int := ([0, 1, 5, 15, 35, 70, 126, 210, 330, 495] : List Int).getD i.toNat 0
def sQ (i : Int) : Int := ([0, 1, 4, 10, 20, 35, 56, 84, 120] : List Int).getD i.toNat 0
def sP (i : Int) : Int := ([0, 1, 3, 6, 10, 15, 21, 28, 36] : List Int).getD i.toNat 0
def z_nest : Cond → Bool
  | .methodLinkNest .. => true
  | .declares _ => true
  | _ => false
def z_st1 (g : GP) (nm : String) (r : Int) (N : Nat) (f : Int → Int) (U : State) : Prop := va_Z "CrossReader$Chart" nm "[I" (.ref (g.2.1 r)) (zA g) U U.heap ∧ va_T .int (g.2.1 r) N (fun j => .int (i32 (f j))) (zA g) U U.heap
def z_stat (g : GP) (U : State) : Prop := z_st1 g "BY_J" (-2) 10 sJ U ∧ z_st1 g "BY_Q" (-3) 9 sQ U ∧ z_st1 g "BY_P" (-4) 9 sP U
def z_G (g : GP) (U : State) : Prop := va_K g.2.2.1 vwCl (z_tys g) U ∧ (∀ w ∈ lw_tbl, z_nest w = true → va_Nw w U) ∧ g.1 ≤ U.heap.size ∧ z_stat g U
theorem z_st1_moved {g : GP} {nm : String} {r : Int} {N : Nat} {f : Int → Int} {s U : State} (hvm : s.vm.Alike U.vm) (hk : ∀ a : Nat, a < s.heap.size → ¬ zA g a → U.heap[a]? = s.heap[a]?) (h : z_st1 g nm r N f s) : z_st1 g nm r N f U :=
  ⟨(h.1.moved hvm).kept hk, (h.2.moved hvm).kept hk⟩
theorem z_G_moved {g : GP} {s U : State} (hW : s.WarmedH U.vm) (hz : s.heap.size ≤ U.heap.size) (hk : ∀ a : Nat, a < s.heap.size → ¬ zA g a → U.heap[a]? = s.heap[a]?) (h : z_G g s) : z_G g U := by
  obtain ⟨h1, h2, h3, h4, h5, h6⟩ := h
  refine ⟨va_K.moved hW.alike h1, fun w hw hn => ?_, Nat.le_trans h3 hz, z_st1_moved hW.alike hk h4, z_st1_moved hW.alike hk h5, z_st1_moved hW.alike hk h6⟩
  have h0 := h2 w hw hn
  cases w <;> first | exact va_Nw.warmM hW h0 | exact va_Nw.warmD hW h0 | (simp [z_nest] at hn)
theorem z_G_call {g : GP} {U : State} {gf : JFrame} {mk : MethodId} {a : Array Value} (h : z_G g U) : z_G g (U.calling gf mk a) := by
  obtain ⟨h1, h2, h3, h4, h5, h6⟩ := h
  have hvm : U.vm.Alike (U.calling gf mk a).vm := Vm.Alike.refl U.vm
  refine ⟨va_K.moved hvm h1, fun w hw hn => ?_, h3, z_st1_moved hvm (fun _ _ _ => rfl) h4, z_st1_moved hvm (fun _ _ _ => rfl) h5, z_st1_moved hvm (fun _ _ _ => rfl) h6⟩
  have h0 := h2 w hw hn
  refine va_Nw.same (u := U) ?_ rfl h0
  cases w <;> first | rfl | (simp [z_nest] at hn)
abbrev CX : Type _ := Program × Launch × Env × Room × State × MethodId × Array Value × List Frame × Method × Code × (State → Prop)
abbrev xp (x : CX) : Program := x.1
abbrev xl (x : CX) : Launch := x.2.1
abbrev xe (x : CX) : Env := x.2.2.1
abbrev xR (x : CX) : Room := x.2.2.2.1
abbrev xs (x : CX) : State := x.2.2.2.2.1
abbrev xm (x : CX) : MethodId := x.2.2.2.2.2.1
abbrev xa (x : CX) : Array Value := x.2.2.2.2.2.2.1
abbrev xb (x : CX) : List Frame := x.2.2.2.2.2.2.2.1
abbrev xme (x : CX) : Method := x.2.2.2.2.2.2.2.2.1
abbrev xc (x : CX) : Code := x.2.2.2.2.2.2.2.2.2.1
abbrev xQ (x : CX) : State → Prop := x.2.2.2.2.2.2.2.2.2.2
def z_lv (g : GP) (ls : List (Nat × TV)) : List (Nat × Value) := ls.map (fun q => (q.1, z_val g.2.1 q.2))
def z_st (g : GP) (st : List TV) : List Value := st.map (z_val g.2.1)
abbrev z_oks (st : List TV) : Prop := ∀ t ∈ st, z_ok t
abbrev z_okl (ls : List (Nat × TV)) : Prop := ∀ q ∈ ls, z_ok q.2
def ZW (g : GP) (x : CX) (nL n : Nat) (h : Hp) (ce sl pc : Nat) (ls : List (Nat × TV)) (st : List TV) : Prop :=
  ∀ (H : Heap) (locs : List Loc) (lsA : Array Slot), z_P g n h H → z_R h → va_S (zA g) (xs x).heap H locs → lv_has lsA nL (z_lv g ls) → z_okl ls → z_oks st →
    W (xp x) (xl x) (xe x) (xR x) (xs x) (xm x) (xa x) (xb x) (xme x) (xc x) H locs ce sl (xQ x) (F0 (xm x) pc lsA (z_st g st))
def zX (g : GP) (x : CX) (own : String) (cc : ByteArray) (nL d : Nat) : Prop :=
  (xp x).tables.exec = Jvm.exec ∧ (xc x).code = cc ∧ (xc x).maxLocals = nL ∧ (xs x).vm.findClass own = some (xm x).cls ∧ (∀ w ∈ lw_tbl, goodWord w = true → w.before (xa x) (xs x) = true) ∧ z_G g (xs x) ∧ (xme x).locks = false ∧ d ≤ (xR x).frames ∧ 41 * d ≤ (xR x).locals
section ROWS
variable {g : GP} {x : CX} {own : String} {cc : ByteArray} {nL d n : Nat} {h : Hp} {ce sl pc : Nat} {ls : List (Nat × TV)} {st : List TV}
theorem z_lift {pc' : Nat} {st' : List TV} (hok : z_oks st → z_oks st')
    (hs : ∀ (H : Heap) (locs : List Loc) (lsA : Array Slot), z_oks st → lv_has lsA nL (z_lv g ls) → z_okl ls → W (xp x) (xl x) (xe x) (xR x) (xs x) (xm x) (xa x) (xb x) (xme x) (xc x) H locs ce sl (xQ x) (F0 (xm x) pc' lsA (z_st g st')) → W (xp x) (xl x) (xe x) (xR x) (xs x) (xm x) (xa x) (xb x) (xme x) (xc x) H locs ce sl (xQ x) (F0 (xm x) pc lsA (z_st g st)))
    (k : ZW g x nL n h ce sl pc' ls st') : ZW g x nL n h ce sl pc ls st :=
  fun H locs lsA hP hR hS hl hol hos => hs H locs lsA hos hl hol (k H locs lsA hP hR hS hl hol (hok hos))
theorem ok1 {t : TV} {st : List TV} (h : z_oks (t :: st)) : z_ok t := h t List.mem_cons_self
theorem ok2 {t u : TV} {st : List TV} (h : z_oks (t :: u :: st)) : z_ok u := h u (List.mem_cons_of_mem _ List.mem_cons_self)
theorem okT {t : TV} {st : List TV} (h : z_oks (t :: st)) : z_oks st := fun u hu => h u (List.mem_cons_of_mem _ hu)
theorem okC {t : TV} {st : List TV} (ht : z_ok t) (h : z_oks st) : z_oks (t :: st) := fun u hu => by
  rcases List.mem_cons.mp hu with rfl | hu
  · exact ht
  · exact h u hu
theorem okB {t : TV} {st : List TV} {a b : TV} (ht : z_ok t) (h : z_oks (a :: b :: st)) : z_oks (t :: st) := okC ht (okT (okT h))
theorem okI {v : Int} {st : List TV} (hv : r32 v) (h : z_oks st) : z_oks ((0, v) :: st) := okC (show z_ok (0, v) from hv) h
theorem okL {v : Int} {st : List TV} (hv : r64 v) (h : z_oks st) : z_oks ((1, v) :: st) := okC (show z_ok (1, v) from hv) h
theorem okR {v : Int} {st : List TV} (h : z_oks st) : z_oks ((2, v) :: st) := okC (show z_ok (2, v) from trivial) h
theorem okI1 {v : Int} {st : List TV} (h : z_oks ((0, v) :: st)) : r32 v := ok1 h
theorem okI2 {v : Int} {u : TV} {st : List TV} (h : z_oks (u :: (0, v) :: st)) : r32 v := ok2 h
theorem okL1 {v : Int} {st : List TV} (h : z_oks ((1, v) :: st)) : r64 v := ok1 h
theorem okL2 {v : Int} {u : TV} {st : List TV} (h : z_oks (u :: (1, v) :: st)) : r64 v := ok2 h
-- constants
theorem z_iconst (X : zX g x own cc nL d) {v : Int} (hd : decode cc pc = .ok (.iconst v, 1)) (hv : r32 v) (k : ZW g x nL n h ce sl (pc + 1) ls ((0, v) :: st)) : ZW g x nL n h ce sl pc ls st :=
  z_lift (okI hv) (fun _ _ _ _ _ _ q => lv_iconst X.1 X.2.1 hd rfl q) k
theorem z_bipush (X : zX g x own cc nL d) {v : Int} (hd : decode cc pc = .ok (.bipush v, 2)) (hv : (Int8.ofInt v).toInt32 = i32 v) (hr : r32 v) (k : ZW g x nL n h ce sl (pc + 2) ls ((0, v) :: st)) : ZW g x nL n h ce sl pc ls st :=
  z_lift (okI hr) (fun _ _ _ _ _ _ q => lv_bipush X.1 X.2.1 hd hv q) k
theorem z_sipush (X : zX g x own cc nL d) {v : Int} (hd : decode cc pc = .ok (.sipush v, 3)) (hv : (Int16.ofInt v).toInt32 = i32 v) (hr : r32 v) (k : ZW g x nL n h ce sl (pc + 3) ls ((0, v) :: st)) : ZW g x nL n h ce sl pc ls st :=
  z_lift (okI hr) (fun _ _ _ _ _ _ q => lv_sipush X.1 X.2.1 hd hv q) k
theorem z_lconst0 (X : zX g x own cc nL d) (hd : decode cc pc = .ok (.lconst 0, 1)) (k : ZW g x nL n h ce sl (pc + 1) ls ((1, 0) :: st)) : ZW g x nL n h ce sl pc ls st :=
  z_lift (okL r64_0) (fun _ _ _ _ _ _ q => lv_lconst X.1 X.2.1 hd (v := i64 0) (by decide) q) k
theorem z_lconst1 (X : zX g x own cc nL d) (hd : decode cc pc = .ok (.lconst 1, 1)) (k : ZW g x nL n h ce sl (pc + 1) ls ((1, 1) :: st)) : ZW g x nL n h ce sl pc ls st :=
  z_lift (okL (show r64 1 by unfold r64; omega)) (fun _ _ _ _ _ _ q => lv_lconst X.1 X.2.1 hd (v := i64 1) (by decide) q) k
theorem z_ldc (X : zX g x own cc nL d) {ix : Nat} {v : Int} (hw : Cond.constant own ix (i32 v) ∈ lw_tbl) (hr : r32 v) (hd : decode cc pc = .ok (.ldc ix, 2)) (k : ZW g x nL n h ce sl (pc + 2) ls ((0, v) :: st)) : ZW g x nL n h ce sl pc ls st :=
  z_lift (okI hr) (fun _ _ _ _ _ _ q => lv_ldc X.1 X.2.1 X.2.2.2.1 (X.2.2.2.2.1 _ hw rfl) hd q) k
theorem z_ldcw (X : zX g x own cc nL d) {ix : Nat} {v : Int} (hw : Cond.constant own ix (i32 v) ∈ lw_tbl) (hr : r32 v) (hd : decode cc pc = .ok (.ldc_w ix, 3)) (k : ZW g x nL n h ce sl (pc + 3) ls ((0, v) :: st)) : ZW g x nL n h ce sl pc ls st :=
  z_lift (okI hr) (fun _ _ _ _ _ _ q => lv_ldcw X.1 X.2.1 X.2.2.2.1 (X.2.2.2.2.1 _ hw rfl) hd q) k
theorem z_ldc2 (X : zX g x own cc nL d) {ix : Nat} {v : Int} (hw : Cond.constantLong own ix (i64 v) ∈ lw_tbl) (hr : r64 v) (hd : decode cc pc = .ok (.ldc2_w ix, 3)) (k : ZW g x nL n h ce sl (pc + 3) ls ((1, v) :: st)) : ZW g x nL n h ce sl pc ls st :=
  z_lift (okL hr) (fun _ _ _ _ _ _ q => lv_ldc2 X.1 X.2.1 X.2.2.2.1 (X.2.2.2.2.1 _ hw rfl) hd q) k
-- locals
theorem z_at {lsA : Array Slot} (hl : lv_has lsA nL (z_lv g ls)) (q : Nat) {i : Nat} {t : TV} (hq : ls[q]? = some (i, t)) : lsA[i]? = some (.val (z_val g.2.1 t)) :=
  lv_at hl q (by simp [z_lv, hq])
theorem z_okat (hl : z_okl ls) (q : Nat) {i : Nat} {t : TV} (hq : ls[q]? = some (i, t)) : z_ok t := hl (i, t) (List.mem_of_getElem? hq)
theorem z_iload (X : zX g x own cc nL d) {i : Nat} {v : Int} (hd : decode cc pc = .ok (.iload i, 2)) (q : Nat) (hq : ls[q]? = some (i, (0, v))) (k : ZW g x nL n h ce sl (pc + 2) ls ((0, v) :: st)) : ZW g x nL n h ce sl pc ls st :=
  fun H locs lsA hP hR hS hl hol hos => lv_iload X.1 X.2.1 hd (z_at hl q hq) (k H locs lsA hP hR hS hl hol (okC (z_okat hol q hq) hos))
theorem z_iload_n (X : zX g x own cc nL d) {i : Fin 4} {v : Int} (hd : decode cc pc = .ok (.iload_n i, 1)) (q : Nat) (hq : ls[q]? = some ((i : Nat), (0, v))) (k : ZW g x nL n h ce sl (pc + 1) ls ((0, v) :: st)) : ZW g x nL n h ce sl pc ls st :=
  fun H locs lsA hP hR hS hl hol hos => lv_iload_n X.1 X.2.1 hd rfl (z_at hl q hq) (k H locs lsA hP hR hS hl hol (okC (z_okat hol q hq) hos))
theorem z_lload (X : zX g x own cc nL d) {i : Nat} {v : Int} (hd : decode cc pc = .ok (.lload i, 2)) (q : Nat) (hq : ls[q]? = some (i, (1, v))) (k : ZW g x nL n h ce sl (pc + 2) ls ((1, v) :: st)) : ZW g x nL n h ce sl pc ls st :=
  fun H locs lsA hP hR hS hl hol hos => lv_lload X.1 X.2.1 hd (z_at hl q hq) (k H locs lsA hP hR hS hl hol (okC (z_okat hol q hq) hos))
theorem z_lload_n (X : zX g x own cc nL d) {i : Fin 4} {v : Int} (hd : decode cc pc = .ok (.lload_n i, 1)) (q : Nat) (hq : ls[q]? = some ((i : Nat), (1, v))) (k : ZW g x nL n h ce sl (pc + 1) ls ((1, v) :: st)) : ZW g x nL n h ce sl pc ls st :=
  fun H locs lsA hP hR hS hl hol hos => lv_lload_n X.1 X.2.1 hd rfl (z_at hl q hq) (k H locs lsA hP hR hS hl hol (okC (z_okat hol q hq) hos))
theorem z_aload (X : zX g x own cc nL d) {i : Nat} {v : Int} (hd : decode cc pc = .ok (.aload i, 2)) (q : Nat) (hq : ls[q]? = some (i, (2, v))) (k : ZW g x nL n h ce sl (pc + 2) ls ((2, v) :: st)) : ZW g x nL n h ce sl pc ls st := by
  intro H locs lsA hP hR hS hl hol hos
  have h1 := k H locs lsA hP hR hS hl hol (okR hos)
  have h2 := z_at hl q hq
  by_cases hv : v = -1
  · subst hv
    exact lv_aloadN X.1 X.2.1 hd h2 h1
  · have e : z_st g ((2, v) :: st) = .ref (g.2.1 v) :: z_st g st := by simp [z_st, z_val2 _ hv]
    rw [e] at h1
    rw [z_val2 _ hv] at h2
    exact lv_aload X.1 X.2.1 hd h2 h1
theorem z_aload_n (X : zX g x own cc nL d) {i : Fin 4} {v : Int} (hd : decode cc pc = .ok (.aload_n i, 1)) (q : Nat) (hq : ls[q]? = some ((i : Nat), (2, v))) (k : ZW g x nL n h ce sl (pc + 1) ls ((2, v) :: st)) : ZW g x nL n h ce sl pc ls st := by
  intro H locs lsA hP hR hS hl hol hos
  have h1 := k H locs lsA hP hR hS hl hol (okR hos)
  have h2 := z_at hl q hq
  by_cases hv : v = -1
  · subst hv
    exact lv_aload_nN X.1 X.2.1 hd rfl h2 h1
  · have e : z_st g ((2, v) :: st) = .ref (g.2.1 v) :: z_st g st := by simp [z_st, z_val2 _ hv]
    rw [e] at h1
    rw [z_val2 _ hv] at h2
    exact lv_aload_n X.1 X.2.1 hd rfl h2 h1
def z_drop1 (i : Nat) (ls : List (Nat × TV)) : List (Nat × TV) := ls.filter (fun q => !(q.1 == i) && !(q.1 + 1 == i && q.2.1 == 1))
def z_drop2 (i : Nat) (ls : List (Nat × TV)) : List (Nat × TV) := ls.filter (fun q => !(q.1 == i) && (!(q.1 == i + 1) && !(q.1 + 1 == i && q.2.1 == 1)))
theorem z_cat2 (t : TV) : ((z_val g.2.1 t).category == 2) = (t.1 == 1) := by
  rw [z_val_cat]
  by_cases e : t.1 = 1
  · simp [e]
  · simp [e]
theorem z_drop1_lv (i : Nat) (t : TV) (ls : List (Nat × TV)) : (i, z_val g.2.1 t) :: (z_lv g ls).filter (fun q => !(q.1 == i) && !(q.1 + 1 == i && q.2.category == 2)) = z_lv g ((i, t) :: z_drop1 i ls) := by
  unfold z_lv z_drop1
  rw [List.map_cons, List.filter_map]
  congr 2
  apply List.filter_congr
  intro q _
  simp only [Function.comp, z_cat2]
theorem z_drop2_lv (i : Nat) (t : TV) (ls : List (Nat × TV)) : (i, z_val g.2.1 t) :: (z_lv g ls).filter (fun q => !(q.1 == i) && (!(q.1 == i + 1) && !(q.1 + 1 == i && q.2.category == 2))) = z_lv g ((i, t) :: z_drop2 i ls) := by
  unfold z_lv z_drop2
  rw [List.map_cons, List.filter_map]
  congr 2
  apply List.filter_congr
  intro q _
  simp only [Function.comp, z_cat2]
theorem z_okd {i : Nat} {t : TV} {ls : List (Nat × TV)} {p : Nat × TV → Bool} (ht : z_ok t) (hl : z_okl ls) : z_okl ((i, t) :: ls.filter p) := by
  intro q hq
  rcases List.mem_cons.mp hq with rfl | hq
  · exact ht
  · exact hl q (List.mem_filter.mp hq).1
theorem z_sto1 {ls' : List (Nat × TV)} {i : Nat} {t : TV} {pc' : Nat} (hl' : (i, t) :: z_drop1 i ls = ls')
    (hs : ∀ (H : Heap) (locs : List Loc) (lsA : Array Slot), lv_has lsA nL (z_lv g ls) → (∀ ls2 : Array Slot, lv_has ls2 nL (z_lv g ls') → W (xp x) (xl x) (xe x) (xR x) (xs x) (xm x) (xa x) (xb x) (xme x) (xc x) H locs ce sl (xQ x) (F0 (xm x) pc' ls2 (z_st g st))) → W (xp x) (xl x) (xe x) (xR x) (xs x) (xm x) (xa x) (xb x) (xme x) (xc x) H locs ce sl (xQ x) (F0 (xm x) pc lsA (z_st g (t :: st))))
    (k : ZW g x nL n h ce sl pc' ls' st) : ZW g x nL n h ce sl pc ls (t :: st) := by
  subst hl'
  exact fun H locs lsA hP hR hS hl hol hos => hs H locs lsA hl (fun ls2 hl2 => k H locs ls2 hP hR hS hl2 (z_okd (ok1 hos) hol) (okT hos))
theorem z_sto2 {ls' : List (Nat × TV)} {i : Nat} {t : TV} {pc' : Nat} (hl' : (i, t) :: z_drop2 i ls = ls')
    (hs : ∀ (H : Heap) (locs : List Loc) (lsA : Array Slot), lv_has lsA nL (z_lv g ls) → (∀ ls2 : Array Slot, lv_has ls2 nL (z_lv g ls') → W (xp x) (xl x) (xe x) (xR x) (xs x) (xm x) (xa x) (xb x) (xme x) (xc x) H locs ce sl (xQ x) (F0 (xm x) pc' ls2 (z_st g st))) → W (xp x) (xl x) (xe x) (xR x) (xs x) (xm x) (xa x) (xb x) (xme x) (xc x) H locs ce sl (xQ x) (F0 (xm x) pc lsA (z_st g (t :: st))))
    (k : ZW g x nL n h ce sl pc' ls' st) : ZW g x nL n h ce sl pc ls (t :: st) := by
  subst hl'
  exact fun H locs lsA hP hR hS hl hol hos => hs H locs lsA hl (fun ls2 hl2 => k H locs ls2 hP hR hS hl2 (z_okd (ok1 hos) hol) (okT hos))
theorem z_istore (X : zX g x own cc nL d) {i : Nat} {v : Int} {ls' : List (Nat × TV)} (hd : decode cc pc = .ok (.istore i, 2)) (hi : i < nL) (hl' : (i, (0, v)) :: z_drop1 i ls = ls') (k : ZW g x nL n h ce sl (pc + 2) ls' st) : ZW g x nL n h ce sl pc ls ((0, v) :: st) :=
  z_sto1 hl' (fun H locs lsA hl kk => lv_istore X.1 X.2.1 hd hl hi (by rw [← hl']; exact z_drop1_lv i (0, v) ls) kk) k
theorem z_istore_n (X : zX g x own cc nL d) {i : Fin 4} {v : Int} {ls' : List (Nat × TV)} (hd : decode cc pc = .ok (.istore_n i, 1)) (hi : (i : Nat) < nL) (hl' : ((i : Nat), (0, v)) :: z_drop1 i ls = ls') (k : ZW g x nL n h ce sl (pc + 1) ls' st) : ZW g x nL n h ce sl pc ls ((0, v) :: st) :=
  z_sto1 hl' (fun H locs lsA hl kk => lv_istore_n X.1 X.2.1 hd rfl hl hi (by rw [← hl']; exact z_drop1_lv i (0, v) ls) kk) k
theorem z_lstore (X : zX g x own cc nL d) {i : Nat} {v : Int} {ls' : List (Nat × TV)} (hd : decode cc pc = .ok (.lstore i, 2)) (hi : i + 1 < nL) (hl' : (i, (1, v)) :: z_drop2 i ls = ls') (k : ZW g x nL n h ce sl (pc + 2) ls' st) : ZW g x nL n h ce sl pc ls ((1, v) :: st) :=
  z_sto2 hl' (fun H locs lsA hl kk => lv_lstore X.1 X.2.1 hd hl hi (by rw [← hl']; exact z_drop2_lv i (1, v) ls) kk) k
theorem z_lstore_n (X : zX g x own cc nL d) {i : Fin 4} {v : Int} {ls' : List (Nat × TV)} (hd : decode cc pc = .ok (.lstore_n i, 1)) (hi : (i : Nat) + 1 < nL) (hl' : ((i : Nat), (1, v)) :: z_drop2 i ls = ls') (k : ZW g x nL n h ce sl (pc + 1) ls' st) : ZW g x nL n h ce sl pc ls ((1, v) :: st) :=
  z_sto2 hl' (fun H locs lsA hl kk => lv_lstore_n X.1 X.2.1 hd rfl hl hi (by rw [← hl']; exact z_drop2_lv i (1, v) ls) kk) k
theorem z_astore (X : zX g x own cc nL d) {i : Nat} {v : Int} {ls' : List (Nat × TV)} (hd : decode cc pc = .ok (.astore i, 2)) (hi : i < nL) (hv : v ≠ -1) (hl' : (i, (2, v)) :: z_drop1 i ls = ls') (k : ZW g x nL n h ce sl (pc + 2) ls' st) : ZW g x nL n h ce sl pc ls ((2, v) :: st) :=
  z_sto1 hl' (fun H locs lsA hl kk => by
    have e : z_st g ((2, v) :: st) = .ref (g.2.1 v) :: z_st g st := by simp [z_st, z_val2 _ hv]
    rw [e]
    exact lv_astore X.1 X.2.1 hd hl hi (by rw [← hl', ← z_val2 _ hv]; exact z_drop1_lv i (2, v) ls) kk) k
theorem z_astore_n (X : zX g x own cc nL d) {i : Fin 4} {v : Int} {ls' : List (Nat × TV)} (hd : decode cc pc = .ok (.astore_n i, 1)) (hi : (i : Nat) < nL) (hv : v ≠ -1) (hl' : ((i : Nat), (2, v)) :: z_drop1 i ls = ls') (k : ZW g x nL n h ce sl (pc + 1) ls' st) : ZW g x nL n h ce sl pc ls ((2, v) :: st) :=
  z_sto1 hl' (fun H locs lsA hl kk => by
    have e : z_st g ((2, v) :: st) = .ref (g.2.1 v) :: z_st g st := by simp [z_st, z_val2 _ hv]
    rw [e]
    exact lv_astore_n X.1 X.2.1 hd rfl hl hi (by rw [← hl', ← z_val2 _ hv]; exact z_drop1_lv i (2, v) ls) kk) k
theorem z_iinc (X : zX g x own cc nL d) {i : Nat} {c v : Int} {ls' : List (Nat × TV)} (hd : decode cc pc = .ok (.iinc i c, 3)) (q : Nat) (hq : ls[q]? = some (i, (0, v))) (hi : i < nL) (hl' : (i, (0, w32 (v + c))) :: z_drop1 i ls = ls') (k : ZW g x nL n h ce sl (pc + 3) ls' st) : ZW g x nL n h ce sl pc ls st := by
  subst hl'
  intro H locs lsA hP hR hS hl hol hos
  refine lv_iinc (k := q) (x := i32 v) X.1 X.2.1 hd hl (by simp [z_lv, hq, z_val0]) (i32_add v c) hi (z_drop1_lv i (0, w32 (v + c)) ls) (fun ls2 hl2 => ?_)
  exact k H locs ls2 hP hR hS hl2 (z_okd (show z_ok (0, w32 (v + c)) from w32_r _) hol) hos
-- numbers
theorem z_iadd (X : zX g x own cc nL d) {a b : Int} (hd : decode cc pc = .ok (.iadd, 1)) (k : ZW g x nL n h ce sl (pc + 1) ls ((0, w32 (a + b)) :: st)) : ZW g x nL n h ce sl pc ls ((0, b) :: (0, a) :: st) :=
  z_lift (fun q => okI (w32_r _) (okT (okT q))) (fun _ _ _ _ _ _ q => lv_iadd X.1 X.2.1 hd (by rw [i32_add]; exact q)) k
theorem z_isub (X : zX g x own cc nL d) {a b : Int} (hd : decode cc pc = .ok (.isub, 1)) (k : ZW g x nL n h ce sl (pc + 1) ls ((0, w32 (a - b)) :: st)) : ZW g x nL n h ce sl pc ls ((0, b) :: (0, a) :: st) :=
  z_lift (fun q => okI (w32_r _) (okT (okT q))) (fun _ _ _ _ _ _ q => lv_isub X.1 X.2.1 hd (by rw [i32_sub]; exact q)) k
theorem z_imul (X : zX g x own cc nL d) {a b : Int} (hd : decode cc pc = .ok (.imul, 1)) (k : ZW g x nL n h ce sl (pc + 1) ls ((0, w32 (a * b)) :: st)) : ZW g x nL n h ce sl pc ls ((0, b) :: (0, a) :: st) :=
  z_lift (fun q => okI (w32_r _) (okT (okT q))) (fun _ _ _ _ _ _ q => lv_imul X.1 X.2.1 hd (by rw [i32_mul]; exact q)) k
theorem z_ineg (X : zX g x own cc nL d) {a : Int} (hd : decode cc pc = .ok (.ineg, 1)) (k : ZW g x nL n h ce sl (pc + 1) ls ((0, w32 (-a)) :: st)) : ZW g x nL n h ce sl pc ls ((0, a) :: st) :=
  z_lift (fun q => okI (w32_r _) (okT q)) (fun _ _ _ _ _ _ q => lv_ineg X.1 X.2.1 hd (by rw [i32_neg]; exact q)) k
theorem z_idiv (X : zX g x own cc nL d) {a b : Int} (hd : decode cc pc = .ok (.idiv, 1)) (hb : b ≠ 0) (k : ZW g x nL n h ce sl (pc + 1) ls ((0, w32 (a.tdiv b)) :: st)) : ZW g x nL n h ce sl pc ls ((0, b) :: (0, a) :: st) :=
  z_lift (fun q => okI (w32_r _) (okT (okT q))) (fun _ _ _ ho _ _ q => lv_idiv X.1 X.2.1 hd (fun e => hb ((i32_z (okI1 ho)).mp e)) (by rw [i32_div (okI2 ho) (okI1 ho)]; exact q)) k
theorem z_irem (X : zX g x own cc nL d) {a b : Int} (hd : decode cc pc = .ok (.irem, 1)) (hb : b ≠ 0) (k : ZW g x nL n h ce sl (pc + 1) ls ((0, w32 (a.tmod b)) :: st)) : ZW g x nL n h ce sl pc ls ((0, b) :: (0, a) :: st) :=
  z_lift (fun q => okI (w32_r _) (okT (okT q))) (fun _ _ _ ho _ _ q => lv_irem X.1 X.2.1 hd (fun e => hb ((i32_z (okI1 ho)).mp e)) (by rw [i32_rem (okI2 ho) (okI1 ho)]; exact q)) k
theorem z_iand (X : zX g x own cc nL d) {a b : Int} (hd : decode cc pc = .ok (.iand, 1)) (k : ZW g x nL n h ce sl (pc + 1) ls ((0, i_and a b) :: st)) : ZW g x nL n h ce sl pc ls ((0, b) :: (0, a) :: st) :=
  z_lift (fun q => okI (r32_of _) (okT (okT q))) (fun _ _ _ _ _ _ q => lv_iand X.1 X.2.1 hd (by rw [← i32_of (i32 a &&& i32 b)]; exact q)) k
theorem z_ior (X : zX g x own cc nL d) {a b : Int} (hd : decode cc pc = .ok (.ior, 1)) (k : ZW g x nL n h ce sl (pc + 1) ls ((0, i_or a b) :: st)) : ZW g x nL n h ce sl pc ls ((0, b) :: (0, a) :: st) :=
  z_lift (fun q => okI (r32_of _) (okT (okT q))) (fun _ _ _ _ _ _ q => lv_ior X.1 X.2.1 hd (by rw [← i32_of (i32 a ||| i32 b)]; exact q)) k
theorem z_ixor (X : zX g x own cc nL d) {a b : Int} (hd : decode cc pc = .ok (.ixor, 1)) (k : ZW g x nL n h ce sl (pc + 1) ls ((0, i_xor a b) :: st)) : ZW g x nL n h ce sl pc ls ((0, b) :: (0, a) :: st) :=
  z_lift (fun q => okI (r32_of _) (okT (okT q))) (fun _ _ _ _ _ _ q => lv_ixor X.1 X.2.1 hd (by rw [← i32_of (i32 a ^^^ i32 b)]; exact q)) k
theorem z_ishl (X : zX g x own cc nL d) {a b : Int} (hd : decode cc pc = .ok (.ishl, 1)) (k : ZW g x nL n h ce sl (pc + 1) ls ((0, i_shl a b) :: st)) : ZW g x nL n h ce sl pc ls ((0, b) :: (0, a) :: st) :=
  z_lift (fun q => okI (r32_of _) (okT (okT q))) (fun _ _ _ _ _ _ q => lv_ishl X.1 X.2.1 hd (by rw [← i32_of (i32 a <<< (i32 b &&& 31))]; exact q)) k
theorem z_ishr (X : zX g x own cc nL d) {a b : Int} (hd : decode cc pc = .ok (.ishr, 1)) (k : ZW g x nL n h ce sl (pc + 1) ls ((0, i_shr a b) :: st)) : ZW g x nL n h ce sl pc ls ((0, b) :: (0, a) :: st) :=
  z_lift (fun q => okI (r32_of _) (okT (okT q))) (fun _ _ _ _ _ _ q => lv_ishr X.1 X.2.1 hd (by rw [← i32_of (i32 a >>> (i32 b &&& 31))]; exact q)) k
theorem z_iushr (X : zX g x own cc nL d) {a b : Int} (hd : decode cc pc = .ok (.iushr, 1)) (k : ZW g x nL n h ce sl (pc + 1) ls ((0, i_ushr a b) :: st)) : ZW g x nL n h ce sl pc ls ((0, b) :: (0, a) :: st) :=
  z_lift (fun q => okI (r32_of _) (okT (okT q))) (fun _ _ _ _ _ _ q => lv_iushr X.1 X.2.1 hd (i32_of _).symm q) k
theorem z_ladd (X : zX g x own cc nL d) {a b : Int} (hd : decode cc pc = .ok (.ladd, 1)) (k : ZW g x nL n h ce sl (pc + 1) ls ((1, w64 (a + b)) :: st)) : ZW g x nL n h ce sl pc ls ((1, b) :: (1, a) :: st) :=
  z_lift (fun q => okL (w64_r _) (okT (okT q))) (fun _ _ _ _ _ _ q => lv_ladd X.1 X.2.1 hd (by rw [i64_add]; exact q)) k
theorem z_lsub (X : zX g x own cc nL d) {a b : Int} (hd : decode cc pc = .ok (.lsub, 1)) (k : ZW g x nL n h ce sl (pc + 1) ls ((1, w64 (a - b)) :: st)) : ZW g x nL n h ce sl pc ls ((1, b) :: (1, a) :: st) :=
  z_lift (fun q => okL (w64_r _) (okT (okT q))) (fun _ _ _ _ _ _ q => lv_lsub X.1 X.2.1 hd (by rw [i64_sub]; exact q)) k
theorem z_lmul (X : zX g x own cc nL d) {a b : Int} (hd : decode cc pc = .ok (.lmul, 1)) (k : ZW g x nL n h ce sl (pc + 1) ls ((1, w64 (a * b)) :: st)) : ZW g x nL n h ce sl pc ls ((1, b) :: (1, a) :: st) :=
  z_lift (fun q => okL (w64_r _) (okT (okT q))) (fun _ _ _ _ _ _ q => lv_lmul X.1 X.2.1 hd (by rw [i64_mul]; exact q)) k
theorem z_ldiv (X : zX g x own cc nL d) {a b : Int} (hd : decode cc pc = .ok (.ldiv, 1)) (hb : b ≠ 0) (k : ZW g x nL n h ce sl (pc + 1) ls ((1, w64 (a.tdiv b)) :: st)) : ZW g x nL n h ce sl pc ls ((1, b) :: (1, a) :: st) :=
  z_lift (fun q => okL (w64_r _) (okT (okT q))) (fun _ _ _ ho _ _ q => lv_ldiv X.1 X.2.1 hd (fun e => hb ((i64_z (okL1 ho)).mp e)) (by rw [i64_div (okL2 ho) (okL1 ho)]; exact q)) k
theorem z_lrem (X : zX g x own cc nL d) {a b : Int} (hd : decode cc pc = .ok (.lrem, 1)) (hb : b ≠ 0) (k : ZW g x nL n h ce sl (pc + 1) ls ((1, w64 (a.tmod b)) :: st)) : ZW g x nL n h ce sl pc ls ((1, b) :: (1, a) :: st) :=
  z_lift (fun q => okL (w64_r _) (okT (okT q))) (fun _ _ _ ho _ _ q => lv_lrem X.1 X.2.1 hd (fun e => hb ((i64_z (okL1 ho)).mp e)) (by rw [i64_rem (okL2 ho) (okL1 ho)]; exact q)) k
theorem z_land (X : zX g x own cc nL d) {a b : Int} (hd : decode cc pc = .ok (.land, 1)) (k : ZW g x nL n h ce sl (pc + 1) ls ((1, l_and a b) :: st)) : ZW g x nL n h ce sl pc ls ((1, b) :: (1, a) :: st) :=
  z_lift (fun q => okL (r64_of _) (okT (okT q))) (fun _ _ _ _ _ _ q => lv_land X.1 X.2.1 hd (by rw [← i64_of (i64 a &&& i64 b)]; exact q)) k
theorem z_lor (X : zX g x own cc nL d) {a b : Int} (hd : decode cc pc = .ok (.lor, 1)) (k : ZW g x nL n h ce sl (pc + 1) ls ((1, l_or a b) :: st)) : ZW g x nL n h ce sl pc ls ((1, b) :: (1, a) :: st) :=
  z_lift (fun q => okL (r64_of _) (okT (okT q))) (fun _ _ _ _ _ _ q => lv_lor X.1 X.2.1 hd (by rw [← i64_of (i64 a ||| i64 b)]; exact q)) k
theorem z_lshl (X : zX g x own cc nL d) {a b : Int} (hd : decode cc pc = .ok (.lshl, 1)) (k : ZW g x nL n h ce sl (pc + 1) ls ((1, l_shl a b) :: st)) : ZW g x nL n h ce sl pc ls ((0, b) :: (1, a) :: st) :=
  z_lift (fun q => okL (r64_of _) (okT (okT q))) (fun _ _ _ _ _ _ q => lv_lshl X.1 X.2.1 hd (i64_of _).symm q) k
theorem z_lshr (X : zX g x own cc nL d) {a b : Int} (hd : decode cc pc = .ok (.lshr, 1)) (k : ZW g x nL n h ce sl (pc + 1) ls ((1, l_shr a b) :: st)) : ZW g x nL n h ce sl pc ls ((0, b) :: (1, a) :: st) :=
  z_lift (fun q => okL (r64_of _) (okT (okT q))) (fun _ _ _ _ _ _ q => lv_lshr X.1 X.2.1 hd (i64_of _).symm q) k
theorem z_lcmp (X : zX g x own cc nL d) {a b : Int} (hd : decode cc pc = .ok (.lcmp, 1)) (k : ZW g x nL n h ce sl (pc + 1) ls ((0, lcmp a b) :: st)) : ZW g x nL n h ce sl pc ls ((1, b) :: (1, a) :: st) :=
  z_lift (fun q => okI (lcmp_r _ _) (okT (okT q))) (fun _ _ _ ho _ _ q => W.lcmp X.1 X.2.1 hd (by rw [lcmp_cmp (okL2 ho) (okL1 ho)]; exact q)) k
theorem z_i2l (X : zX g x own cc nL d) {a : Int} (hd : decode cc pc = .ok (.i2l, 1)) (k : ZW g x nL n h ce sl (pc + 1) ls ((1, a) :: st)) : ZW g x nL n h ce sl pc ls ((0, a) :: st) :=
  z_lift (fun q => okL (r32_64 (okI1 q)) (okT q)) (fun _ _ _ ho _ _ q => lv_i2l X.1 X.2.1 hd (i32_i2l (okI1 ho)) q) k
theorem z_l2i (X : zX g x own cc nL d) {a : Int} (hd : decode cc pc = .ok (.l2i, 1)) (k : ZW g x nL n h ce sl (pc + 1) ls ((0, w32 a) :: st)) : ZW g x nL n h ce sl pc ls ((1, a) :: st) :=
  z_lift (fun q => okI (w32_r _) (okT q)) (fun _ _ _ _ _ _ q => lv_l2i X.1 X.2.1 hd (i64_l2i a) q) k
theorem z_i2b (X : zX g x own cc nL d) {a : Int} (hd : decode cc pc = .ok (.i2b, 1)) (k : ZW g x nL n h ce sl (pc + 1) ls ((0, w8 a) :: st)) : ZW g x nL n h ce sl pc ls ((0, a) :: st) :=
  z_lift (fun q => okI (w8_r _) (okT q)) (fun _ _ _ _ _ _ q => lv_i2b X.1 X.2.1 hd (i32_i2b a) q) k
theorem z_cat1 {t : TV} (ht : t.1 ≠ 1) : (z_val g.2.1 t).category = 1 := by rw [z_val_cat, if_neg ht]
theorem z_dup (X : zX g x own cc nL d) {t : TV} (ht : t.1 ≠ 1) (hd : decode cc pc = .ok (.dup, 1)) (k : ZW g x nL n h ce sl (pc + 1) ls (t :: t :: st)) : ZW g x nL n h ce sl pc ls (t :: st) :=
  z_lift (fun q => okC (ok1 q) q) (fun _ _ _ _ _ _ q => lv_dup X.1 X.2.1 hd (z_cat1 ht) q) k
theorem z_pop (X : zX g x own cc nL d) {t : TV} (ht : t.1 ≠ 1) (hd : decode cc pc = .ok (.pop, 1)) (k : ZW g x nL n h ce sl (pc + 1) ls st) : ZW g x nL n h ce sl pc ls (t :: st) :=
  z_lift okT (fun _ _ _ _ _ _ q => lv_pop X.1 X.2.1 hd (z_cat1 ht) q) k
theorem z_dup2 (X : zX g x own cc nL d) {t u : TV} (ht : t.1 ≠ 1) (hu : u.1 ≠ 1) (hd : decode cc pc = .ok (.dup2, 1)) (k : ZW g x nL n h ce sl (pc + 1) ls (t :: u :: t :: u :: st)) : ZW g x nL n h ce sl pc ls (t :: u :: st) :=
  z_lift (fun q => okC (ok1 q) (okC (ok2 q) q)) (fun _ _ _ _ _ _ q => lv_dup2_11 X.1 X.2.1 hd (z_cat1 ht) (z_cat1 hu) q) k
end ROWS
