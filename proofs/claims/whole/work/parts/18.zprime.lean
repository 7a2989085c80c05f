/-! rows for methods that make nothing: all 157 cells are there -/
abbrev ZV (g : GP) (x : CX) (nL : Nat) (h : Hp) (pc : Nat) (ls : List (Nat × TV)) (st : List TV) : Prop := ZW g x nL 157 h 0 0 pc ls st
theorem gif {α : Type} {c : Prop} [Decidable c] {e : Option α} {y : α} (h : (if c then e else none) = some y) : c ∧ e = some y := by
  by_cases hc : c
  · rw [if_pos hc] at h; exact ⟨hc, h⟩
  · rw [if_neg hc] at h; cases h
theorem ift {α : Type} {c : Prop} [Decidable c] {a b : Option α} {y : α} (hc : c) (h : (if c then a else b) = some y) : a = some y := by rw [if_pos hc] at h; exact h
theorem iff' {α : Type} {c : Prop} [Decidable c] {a b : Option α} {y : α} (hc : ¬ c) (h : (if c then a else b) = some y) : b = some y := by rw [if_neg hc] at h; exact h
theorem obE {α β : Type} {a : Option α} {k : α → Option β} {y : β} (h : ob a k = some y) : ∃ r, a = some r ∧ k r = some y := by
  cases a with
  | none => cases h
  | some r => exact ⟨r, rfl, h⟩
theorem z00 {a b : Nat} : 0 ≤ a ∧ 0 ≤ b := ⟨Nat.zero_le _, Nat.zero_le _⟩
theorem ne2 {v : Int} : ((2, v) : TV).1 ≠ 1 := fun h => absurd (show (2 : Nat) = 1 from h) (by decide)
theorem ne0 {v : Int} : ((0, v) : TV).1 ≠ 1 := fun h => absurd (show (0 : Nat) = 1 from h) (by decide)
section PRIME
variable {g : GP} {x : CX} {own : String} {cc : ByteArray} {nL d ce sl : Nat} {h : Hp} {pc : Nat} {ls : List (Nat × TV)} {st : List TV}
theorem z_lt {o c : Int} (ho : kK o = c) (hc : c ≠ 99) : o < ((157 : Nat) : Int) := (kK_pos (o := o) (by rw [ho]; exact hc)).2
theorem y_get (X : zX g x own cc nL d) {ix tt tg : Nat} {c o kI : Int} {fin : Bool} (F : zFL own ix c kI fin tt tg) (hd : decode cc pc = .ok (.getfield ix, 3)) (ho : kK o = c) (kk : ZW g x nL 157 h ce sl (pc + 3) ls ((tg, h o kI) :: st)) : ZW g x nL 157 h ce sl pc ls ((2, o) :: st) :=
  z_get X F hd ho (z_lt ho (by obtain ⟨k, -, -, C, T, N, ty, -, -, -, -, -, -, -, -, -, q⟩ := F; omega)) kk
theorem y_put (X : zX g x own cc nL d) {ix tt tg : Nat} {c o v kI : Int} (F : zFL own ix c kI false tt tg) (hd : decode cc pc = .ok (.putfield ix, 3)) (ho : kK o = c) (htt : tt = tg) (ht3 : tt < 3) (kk : ZW g x nL 157 (hput h o kI v) ce sl (pc + 3) ls st) : ZW g x nL 157 h ce sl pc ls ((tg, v) :: (2, o) :: st) :=
  z_put X F hd ho (z_lt ho (by obtain ⟨k, -, -, C, T, N, ty, -, -, -, -, -, -, -, -, -, q⟩ := F; omega)) htt ht3 kk
theorem y_putZ (X : zX g x own cc nL d) {ix : Nat} {c o v kI : Int} (F : zFL own ix c kI false 5 0) (hd : decode cc pc = .ok (.putfield ix, 3)) (ho : kK o = c) (hv : v = 0 ∨ v = 1) (kk : ZW g x nL 157 (hput h o kI v) ce sl (pc + 3) ls st) : ZW g x nL 157 h ce sl pc ls ((0, v) :: (2, o) :: st) :=
  z_putZ X F hd ho (z_lt ho (by obtain ⟨k, -, -, C, T, N, ty, -, -, -, -, -, -, -, -, -, q⟩ := F; omega)) hv kk
theorem y_iald (X : zX g x own cc nL d) {a i : Int} (hd : decode cc pc = .ok (.iaload, 1)) (q : kK a = 21 ∧ 0 ≤ i ∧ i < kL a) (k : ZW g x nL 157 h ce sl (pc + 1) ls ((0, h a i) :: st)) : ZW g x nL 157 h ce sl pc ls ((0, i) :: (2, a) :: st) := z_iald X hd q.1 (z_lt q.1 (by decide)) q.2.1 q.2.2 k
theorem y_bald (X : zX g x own cc nL d) {a i : Int} (hd : decode cc pc = .ok (.baload, 1)) (q : kK a = 20 ∧ 0 ≤ i ∧ i < kL a) (k : ZW g x nL 157 h ce sl (pc + 1) ls ((0, h a i) :: st)) : ZW g x nL 157 h ce sl pc ls ((0, i) :: (2, a) :: st) := z_bald X hd q.1 (z_lt q.1 (by decide)) q.2.1 q.2.2 k
theorem y_zald (X : zX g x own cc nL d) {a i : Int} (hd : decode cc pc = .ok (.baload, 1)) (q : kK a = 23 ∧ 0 ≤ i ∧ i < kL a) (k : ZW g x nL 157 h ce sl (pc + 1) ls ((0, h a i) :: st)) : ZW g x nL 157 h ce sl pc ls ((0, i) :: (2, a) :: st) := z_zald X hd q.1 (z_lt q.1 (by decide)) q.2.1 q.2.2 k
theorem y_lald (X : zX g x own cc nL d) {a i : Int} (hd : decode cc pc = .ok (.laload, 1)) (q : kK a = 22 ∧ 0 ≤ i ∧ i < kL a) (k : ZW g x nL 157 h ce sl (pc + 1) ls ((1, h a i) :: st)) : ZW g x nL 157 h ce sl pc ls ((0, i) :: (2, a) :: st) := z_lald X hd q.1 (z_lt q.1 (by decide)) q.2.1 q.2.2 k
theorem y_aald (X : zX g x own cc nL d) {a i : Int} (hd : decode cc pc = .ok (.aaload, 1)) (q : kK a = 24 ∧ 0 ≤ i ∧ i < kL a) (k : ZW g x nL 157 h ce sl (pc + 1) ls ((2, h a i) :: st)) : ZW g x nL 157 h ce sl pc ls ((0, i) :: (2, a) :: st) := z_aald X hd q.1 (z_lt q.1 (by decide)) q.2.1 q.2.2 k
theorem y_iast (X : zX g x own cc nL d) {a i v : Int} (hd : decode cc pc = .ok (.iastore, 1)) (q : kK a = 21 ∧ 0 ≤ i ∧ i < kL a) (k : ZW g x nL 157 (hput h a i v) ce sl (pc + 1) ls st) : ZW g x nL 157 h ce sl pc ls ((0, v) :: (0, i) :: (2, a) :: st) := z_iast X hd q.1 (z_lt q.1 (by decide)) q.2.1 q.2.2 k
theorem y_bast (X : zX g x own cc nL d) {a i v : Int} (hd : decode cc pc = .ok (.bastore, 1)) (q : kK a = 20 ∧ 0 ≤ i ∧ i < kL a) (k : ZW g x nL 157 (hput h a i (w8 v)) ce sl (pc + 1) ls st) : ZW g x nL 157 h ce sl pc ls ((0, v) :: (0, i) :: (2, a) :: st) := z_bast X hd q.1 (z_lt q.1 (by decide)) q.2.1 q.2.2 k
theorem y_zast (X : zX g x own cc nL d) {a i v : Int} (hd : decode cc pc = .ok (.bastore, 1)) (q : kK a = 23 ∧ 0 ≤ i ∧ i < kL a) (hv : v = 0 ∨ v = 1) (k : ZW g x nL 157 (hput h a i v) ce sl (pc + 1) ls st) : ZW g x nL 157 h ce sl pc ls ((0, v) :: (0, i) :: (2, a) :: st) := z_zast X hd q.1 (z_lt q.1 (by decide)) q.2.1 q.2.2 hv k
theorem y_last (X : zX g x own cc nL d) {a i v : Int} (hd : decode cc pc = .ok (.lastore, 1)) (q : kK a = 22 ∧ 0 ≤ i ∧ i < kL a) (k : ZW g x nL 157 (hput h a i v) ce sl (pc + 1) ls st) : ZW g x nL 157 h ce sl pc ls ((1, v) :: (0, i) :: (2, a) :: st) := z_last X hd q.1 (z_lt q.1 (by decide)) q.2.1 q.2.2 k
theorem y_alen (X : zX g x own cc nL d) {a : Int} (hd : decode cc pc = .ok (.arraylength, 1)) (ha : kK a = 20 ∨ kK a = 21 ∨ kK a = 22 ∨ kK a = 23) (k : ZW g x nL 157 h ce sl (pc + 1) ls ((0, kL a) :: st)) : ZW g x nL 157 h ce sl pc ls ((2, a) :: st) :=
  z_alen X hd ha (kK_pos (o := a) (by omega)).2 k
theorem y_V1 (X : zX g x own cc nL (d + 1)) {ix : Nat} {c : Int} {y : MethodName} {cc' : ByteArray} {maxL' : Nat} {ret' : Option FieldType} {np : Nat} {h1 : Hp} {t : TV} {as rest : List TV} {o : Int} (F : zCV own ix c y cc' maxL' ret' np) (hd : decode cc pc = .ok (.invokevirtual ix, 3)) (ho : kK o = c) (hM : zM (xl x) y cc' maxL' ret' d 0 0 g 157 h ((2, o) :: as) 157 h1 (some t)) (hst : st = as.reverse ++ (2, o) :: rest) (hnp : as.length = np) (hw : z_wd rest ≤ 8) (hz : ce ≤ (xR x).cells ∧ sl ≤ (xR x).slots) (k : ZW g x nL 157 h1 ce sl (pc + 3) ls (t :: rest)) : ZW g x nL 157 h ce sl pc ls st :=
  z_callV X F hd ho (z_lt ho (by obtain ⟨C, T, N, -, q, -⟩ := F; omega)) hM hst hnp hw hz k
theorem y_V0 (X : zX g x own cc nL (d + 1)) {ix : Nat} {c : Int} {y : MethodName} {cc' : ByteArray} {maxL' : Nat} {ret' : Option FieldType} {np : Nat} {h1 : Hp} {as rest : List TV} {o : Int} (F : zCV own ix c y cc' maxL' ret' np) (hd : decode cc pc = .ok (.invokevirtual ix, 3)) (ho : kK o = c) (hM : zM (xl x) y cc' maxL' ret' d 0 0 g 157 h ((2, o) :: as) 157 h1 none) (hst : st = as.reverse ++ (2, o) :: rest) (hnp : as.length = np) (hw : z_wd rest ≤ 8) (hz : ce ≤ (xR x).cells ∧ sl ≤ (xR x).slots) (k : ZW g x nL 157 h1 ce sl (pc + 3) ls rest) : ZW g x nL 157 h ce sl pc ls st :=
  z_callV X F hd ho (z_lt ho (by obtain ⟨C, T, N, -, q, -⟩ := F; omega)) hM hst hnp hw hz k
theorem y_A1 (X : zX g x own cc nL (d + 1)) {ix : Nat} {c : Int} {xn y : MethodName} {cc' : ByteArray} {maxL' : Nat} {ret' : Option FieldType} {np : Nat} {h1 : Hp} {t : TV} {as rest : List TV} {o : Int} (F : zCA own ix c xn y cc' maxL' ret' np) (hd : decode cc pc = .ok (.invokevirtual ix, 3)) (ho : kK o = c) (hM : zM (xl x) y cc' maxL' ret' d 0 0 g 157 h ((2, o) :: as) 157 h1 (some t)) (hst : st = as.reverse ++ (2, o) :: rest) (hnp : as.length = np) (hw : z_wd rest ≤ 8) (hz : ce ≤ (xR x).cells ∧ sl ≤ (xR x).slots) (k : ZW g x nL 157 h1 ce sl (pc + 3) ls (t :: rest)) : ZW g x nL 157 h ce sl pc ls st :=
  z_callA X F hd ho (z_lt ho (by obtain ⟨C, T, N, -, q, -⟩ := F; omega)) hM hst hnp hw hz k
theorem y_S1 (X : zX g x own cc nL (d + 1)) {ix : Nat} {y : MethodName} {cc' : ByteArray} {maxL' : Nat} {ret' : Option FieldType} {np : Nat} {h1 : Hp} {t : TV} {as rest : List TV} (F : zCS own ix y cc' maxL' ret' np) (hd : decode cc pc = .ok (.invokestatic ix, 3)) (hM : zM (xl x) y cc' maxL' ret' d 0 0 g 157 h as 157 h1 (some t)) (hst : st = as.reverse ++ rest) (hnp : as.length = np) (hw : z_wd rest ≤ 8) (hz : ce ≤ (xR x).cells ∧ sl ≤ (xR x).slots) (k : ZW g x nL 157 h1 ce sl (pc + 3) ls (t :: rest)) : ZW g x nL 157 h ce sl pc ls st :=
  z_callS X F hd hM hst hnp hw hz k
theorem y_S0 (X : zX g x own cc nL (d + 1)) {ix : Nat} {y : MethodName} {cc' : ByteArray} {maxL' : Nat} {ret' : Option FieldType} {np : Nat} {h1 : Hp} {as rest : List TV} (F : zCS own ix y cc' maxL' ret' np) (hd : decode cc pc = .ok (.invokestatic ix, 3)) (hM : zM (xl x) y cc' maxL' ret' d 0 0 g 157 h as 157 h1 none) (hst : st = as.reverse ++ rest) (hnp : as.length = np) (hw : z_wd rest ≤ 8) (hz : ce ≤ (xR x).cells ∧ sl ≤ (xR x).slots) (k : ZW g x nL 157 h1 ce sl (pc + 3) ls rest) : ZW g x nL 157 h ce sl pc ls st :=
  z_callS X F hd hM hst hnp hw hz k
theorem y_SN1 (X : zX g x own cc nL (d + 1)) {host : String} {ix : Nat} {y : MethodName} {cc' : ByteArray} {maxL' : Nat} {ret' : Option FieldType} {np : Nat} {h1 : Hp} {t : TV} {as rest : List TV} (F : zCSN own host ix y cc' maxL' ret' np) (hd : decode cc pc = .ok (.invokestatic ix, 3)) (hM : zM (xl x) y cc' maxL' ret' d 0 0 g 157 h as 157 h1 (some t)) (hst : st = as.reverse ++ rest) (hnp : as.length = np) (hw : z_wd rest ≤ 8) (hz : ce ≤ (xR x).cells ∧ sl ≤ (xR x).slots) (k : ZW g x nL 157 h1 ce sl (pc + 3) ls (t :: rest)) : ZW g x nL 157 h ce sl pc ls st :=
  z_callSN X F hd hM hst hnp hw hz k
theorem z_weak {n ce sl : Nat} {ls' : List (Nat × TV)} (ks : List Nat) (hl : ks.filterMap (fun k => ls[k]?) = ls') (k : ZW g x nL n h ce sl pc ls' st) : ZW g x nL n h ce sl pc ls st := by
  subst hl
  intro H locs lsA hP hR hS hl hol hos
  refine k H locs lsA hP hR hS (lv_sub hl ks ?_) (fun q hq => ?_) hos
  · unfold lv_pick z_lv
    rw [List.map_filterMap]
    simp
  · obtain ⟨i, -, hi⟩ := List.mem_filterMap.mp hq
    exact hol q (List.mem_of_getElem? hi)
end PRIME
theorem z_inl {ws : List Cond} (ps : List Nat) (h : ps.map (fun i => lw_tbl[i]?) = ws.map some) : ∀ w ∈ ws, w ∈ lw_tbl := by
  intro w hw
  have h1 : some w ∈ ps.map (fun i => lw_tbl[i]?) := by rw [h]; exact List.mem_map.mpr ⟨w, hw, rfl⟩
  obtain ⟨i, -, hi⟩ := List.mem_map.mp h1
  exact List.mem_of_getElem? hi
