/-! fields and arrays -/
def zT : List Cond := lw_tbl.filter goodWord
theorem zT_in {w : Cond} (hw : w ∈ lw_tbl) (hg : goodWord w = true) : w ∈ zT := List.mem_filter.mpr ⟨hw, hg⟩
theorem kK_pos {o : Int} (h : kK o ≠ 99) : 0 ≤ o ∧ o < 157 := by
  unfold kK at h
  by_cases ho : o < 0
  · rw [if_pos ho] at h; exact absurd rfl h
  · rw [if_neg ho] at h
    refine ⟨by omega, ?_⟩
    by_cases h2 : o < 157
    · exact h2
    · exfalso; apply h
      have : kTab.length = 157 := rfl
      rw [List.getD_eq_getElem?_getD, List.getElem?_eq_none (by omega)]
      rfl
def tyTag : FieldType → Nat
  | .int => 0
  | .long => 1
  | .object _ => 2
  | .array _ => 2
  | .boolean => 5
  | _ => 9
def zFL (own : String) (ix : Nat) (c kI : Int) (fin : Bool) (tt tg : Nat) : Prop := ∃ k : Nat, (k : Int) = kI ∧ kT c k = tg ∧ ∃ (C : String) (T : u_T) (N : Nat) (ty : Nat → FieldType), vwCl[c.toNat]? = some (C, T, N) ∧ k < N ∧ Cond.fieldLink own ix (T k).1 (T k).2.1 (T k).2.2.1 ∈ lw_tbl ∧ (∀ w ∈ u_ws C T N, w ∈ lw_tbl) ∧ (∀ k, k < N → parseFieldDescriptor (T k).2.2.1 = some (ty k)) ∧ (∀ a, a < N → ∀ b, b < N → a ≠ b → (T a).2.1 ≠ (T b).2.1) ∧ kF c = N ∧ (T k).2.2.2 = fin ∧ tyTag (ty k) = tt ∧ c < 20
theorem zT_lay {C : String} {T : u_T} {N : Nat} (h : ∀ w ∈ u_ws C T N, w ∈ lw_tbl) : ∀ w ∈ u_ws C T N, w ∈ zT := by
  intro w hw
  refine zT_in (h w hw) ?_
  unfold u_ws at hw
  obtain ⟨k, -, rfl⟩ := List.mem_map.mp hw
  unfold u_lay
  split <;> rfl
section HEAP
variable {g : GP} {x : CX} {own : String} {cc : ByteArray} {nL d n : Nat} {h : Hp} {ce sl pc : Nat} {ls : List (Nat × TV)} {st : List TV}
theorem z_X_ts (X : zX g x own cc nL d) : ∀ w ∈ zT, w.before (xa x) (xs x) = true := fun w hw => X.2.2.2.2.1 w (List.mem_filter.mp hw).1 (List.mem_filter.mp hw).2
theorem z_cell {o : Int} (h0 : 0 ≤ o) (h1 : o < n) : (z_W g n h)[o.toNat]? = some (g.2.1 o, z_E g h o) := by
  have e : ((o.toNat : Nat) : Int) = o := Int.toNat_of_nonneg h0
  rw [z_W_at g h (k := o.toNat) (by omega), e]
theorem z_E_obj {o c : Int} (ho : kK o = c) (hc : c < 20) : z_E g h o = .inr (c.toNat, (List.range (kF c)).map (fun j => z_val g.2.1 (kT c j, h o j))) := by
  unfold z_E; rw [ho, if_pos hc]
theorem z_E_int {a : Int} (ha : kK a = 21) : z_E g h a = .inl (g.2.2.2 21, (kL a).toNat, .inl (fun j => i32 (h a j))) := by
  unfold z_E; rw [ha]; rfl
theorem z_E_byte {a : Int} (ha : kK a = 20) : z_E g h a = .inl (g.2.2.2 20, (kL a).toNat, .inl (fun j => i32 (h a j))) := by
  unfold z_E; rw [ha]; rfl
theorem z_E_bool {a : Int} (ha : kK a = 23) : z_E g h a = .inl (g.2.2.2 23, (kL a).toNat, .inl (fun j => i32 (h a j))) := by
  unfold z_E; rw [ha]; rfl
theorem z_E_long {a : Int} (ha : kK a = 22) : z_E g h a = .inl (g.2.2.2 22, (kL a).toNat, .inr (.inl (fun j => i64 (h a j)))) := by
  unfold z_E; rw [ha]; rfl
theorem z_ref {o : Int} (h0 : 0 ≤ o) : z_st g ((2, o) :: st) = .ref (g.2.1 o) :: z_st g st := by simp [z_st, z_val2 g.2.1 (show o ≠ -1 by omega)]
theorem z_kS_obj {o c : Int} {k : Nat} (ho : kK o = c) (hc : c < 20) : kS o k = kT c k := by unfold kS; rw [ho, if_pos hc]; simp
theorem z_get (X : zX g x own cc nL d) {ix tt tg : Nat} {c o kI : Int} {fin : Bool} (F : zFL own ix c kI fin tt tg) (hd : decode cc pc = .ok (.getfield ix, 3)) (ho : kK o = c) (hn : o < n) (kk : ZW g x nL n h ce sl (pc + 3) ls ((tg, h o kI) :: st)) : ZW g x nL n h ce sl pc ls ((2, o) :: st) := by
  intro H locs lsA hP hR hS hl hol hos
  obtain ⟨k, rfl, rfl, C, T, N, ty, f1, f2, f3, f4, f5, f6, f7, f8, f9, f10⟩ := F
  have h0 := (kK_pos (o := o) (by rw [ho]; omega)).1
  rw [z_ref h0]
  have hE := z_cell (g := g) (h := h) h0 hn
  rw [z_E_obj ho f10] at hE
  refine va_get (D := g.2.2.1) (v := z_val g.2.1 (kT c k, h o k)) X.1 X.2.1 (z_X_ts X) (zT_lay f4) X.2.2.2.1 X.2.2.2.2.2.1.1 hP.1 o.toNat hE f1 k f2 (X.2.2.2.2.1 _ f3 rfl) (fun _ h9 => h9) ?_ hd ?_
  · simp [f7, f2]
  · exact kk H locs lsA hP hR hS hl hol (okC (by rw [← z_kS_obj ho f10]; exact hR o k) (okT hos))
theorem z_E_put {o c v : Int} {k : Nat} (ho : kK o = c) (hc : c < 20) (hk : k < kF c) : z_E g (hput h o k v) o = .inr (c.toNat, ((List.range (kF c)).map (fun j => z_val g.2.1 (kT c j, h o j))).set k (z_val g.2.1 (kT c k, v))) := by
  rw [z_E_obj ho hc]
  congr 2
  apply List.ext_getElem?
  intro i
  by_cases hi : i = k
  · subst hi
    rw [List.getElem?_set_self (by simpa using hk)]
    simp [hk, hput]
  · rw [List.getElem?_set_ne (Ne.symm hi)]
    have e : ∀ j : Nat, j ≠ k → hput h o k v o j = h o j := fun j hj => hput_ne2 (by omega)
    by_cases hn : i < kF c
    · simp [hn, e i hi]
    · simp [hn]
theorem z_set {o v : Int} {k : Int} {e : va_E} (h0 : 0 ≤ o) (h1 : o < n) (he : z_E g (hput h o k v) o = e) : (z_W g n h).set o.toNat (g.2.1 o, e) = z_W g n (hput h o k v) := by
  have e1 : ((o.toNat : Nat) : Int) = o := Int.toNat_of_nonneg h0
  have := z_W_set g h (hput h o k v) (k := o.toNat) (n := n) (by omega) e (by rw [e1]; exact he) (fun j hj => z_E_ne (by omega))
  rw [e1] at this
  exact this
theorem z_put (X : zX g x own cc nL d) {ix tt tg : Nat} {c o v kI : Int} (F : zFL own ix c kI false tt tg) (hd : decode cc pc = .ok (.putfield ix, 3)) (ho : kK o = c) (hn : o < n) (htt : tt = tg) (ht3 : tt < 3) (kk : ZW g x nL n (hput h o kI v) ce sl (pc + 3) ls st) : ZW g x nL n h ce sl pc ls ((tg, v) :: (2, o) :: st) := by
  intro H locs lsA hP hR hS hl hol hos
  obtain ⟨k, rfl, rfl, C, T, N, ty, f1, f2, f3, f4, f5, f6, f7, f8, f9, f10⟩ := F
  have h0 := (kK_pos (o := o) (by rw [ho]; omega)).1
  have hE := z_cell (g := g) (h := h) h0 hn
  rw [z_E_obj ho f10] at hE
  have hok : z_ok (kT c k, v) := ok1 hos
  have es : z_st g ((kT c k, v) :: (2, o) :: st) = z_val g.2.1 (kT c k, v) :: .ref (g.2.1 o) :: z_st g st := by
    rw [← z_ref h0]; rfl
  rw [es]
  have hnf : narrow (ty k) (z_val g.2.1 (kT c k, v)) = z_val g.2.1 (kT c k, v) ∧ fits (ty k) (z_val g.2.1 (kT c k, v)) = true := by
    rw [← htt]
    generalize ty k = t at f9
    cases t <;> simp only [tyTag] at f9 <;> subst f9 <;> first | (exfalso; omega) | exact ⟨rfl, rfl⟩ | (by_cases e : v = -1 <;> simp [z_val, e, narrow, fits])
  refine va_put (D := g.2.2.1) (ty := ty k) X.1 X.2.1 (z_X_ts X) (zT_lay f4) ty f5 f6 X.2.2.2.1 X.2.2.2.2.2.1.1 hP.1 hP.2 hS o.toNat hE f1 k f2 (X.2.2.2.2.1 _ f3 rfl) (fun _ h9 => h9) f8 (f5 k f2) hnf.1 hnf.2 (by simp [f7, f2]) hd (fun H1 locs1 hP1 hD1 hS1 => ?_)
  have e := z_set (g := g) (h := h) (n := n) (o := o) (v := v) (k := k) h0 hn (z_E_put ho f10 (by omega))
  rw [e] at hP1 hD1
  exact kk H1 locs1 lsA ⟨hP1, hD1⟩ (z_R_put hR (by rw [z_kS_obj ho f10]; exact hok)) hS1 hl hol (okT (okT hos))
theorem z_putF (X : zX g x own cc nL d) {ix tt tg : Nat} {c o v kI : Int} (F : zFL own ix c kI true tt tg) (hown : ∀ C T N, vwCl[c.toNat]? = some (C, T, N) → ∀ k, k < N → (T k).1 = own) (hini : (xme x).name = "<init>") (hd : decode cc pc = .ok (.putfield ix, 3)) (ho : kK o = c) (hn : o < n) (htt : tt = tg) (ht3 : tt < 3) (kk : ZW g x nL n (hput h o kI v) ce sl (pc + 3) ls st) : ZW g x nL n h ce sl pc ls ((tg, v) :: (2, o) :: st) := by
  intro H locs lsA hP hR hS hl hol hos
  obtain ⟨k, rfl, rfl, C, T, N, ty, f1, f2, f3, f4, f5, f6, f7, f8, f9, f10⟩ := F
  have h0 := (kK_pos (o := o) (by rw [ho]; omega)).1
  have hE := z_cell (g := g) (h := h) h0 hn
  rw [z_E_obj ho f10] at hE
  have hok : z_ok (kT c k, v) := ok1 hos
  have es : z_st g ((kT c k, v) :: (2, o) :: st) = z_val g.2.1 (kT c k, v) :: .ref (g.2.1 o) :: z_st g st := by
    rw [← z_ref h0]; rfl
  rw [es]
  have hnf : narrow (ty k) (z_val g.2.1 (kT c k, v)) = z_val g.2.1 (kT c k, v) ∧ fits (ty k) (z_val g.2.1 (kT c k, v)) = true := by
    rw [← htt]
    generalize ty k = t at f9
    cases t <;> simp only [tyTag] at f9 <;> subst f9 <;> first | (exfalso; omega) | exact ⟨rfl, rfl⟩ | (by_cases e : v = -1 <;> simp [z_val, e, narrow, fits])
  refine va_putF (D := g.2.2.1) (ty := ty k) X.1 X.2.1 (z_X_ts X) (zT_lay f4) ty f5 f6 X.2.2.2.1 X.2.2.2.2.2.1.1 hP.1 hP.2 hS o.toNat hE f1 k f2 (X.2.2.2.2.1 _ f3 rfl) (fun _ h9 => h9) f8 hini (hown C T N f1 k f2) (f5 k f2) hnf.1 hnf.2 (by simp [f7, f2]) hd (fun H1 locs1 hP1 hD1 hS1 => ?_)
  have e := z_set (g := g) (h := h) (n := n) (o := o) (v := v) (k := k) h0 hn (z_E_put ho f10 (by omega))
  rw [e] at hP1 hD1
  exact kk H1 locs1 lsA ⟨hP1, hD1⟩ (z_R_put hR (by rw [z_kS_obj ho f10]; exact hok)) hS1 hl hol (okT (okT hos))
theorem z_putZ (X : zX g x own cc nL d) {ix : Nat} {c o v kI : Int} (F : zFL own ix c kI false 5 0) (hd : decode cc pc = .ok (.putfield ix, 3)) (ho : kK o = c) (hn : o < n) (hv : v = 0 ∨ v = 1) (kk : ZW g x nL n (hput h o kI v) ce sl (pc + 3) ls st) : ZW g x nL n h ce sl pc ls ((0, v) :: (2, o) :: st) := by
  intro H locs lsA hP hR hS hl hol hos
  obtain ⟨k, rfl, ht, C, T, N, ty, f1, f2, f3, f4, f5, f6, f7, f8, f9, f10⟩ := F
  have h0 := (kK_pos (o := o) (by rw [ho]; omega)).1
  have hE := z_cell (g := g) (h := h) h0 hn
  rw [z_E_obj ho f10] at hE
  have hok : z_ok (0, v) := ok1 hos
  have es : z_st g ((0, v) :: (2, o) :: st) = z_val g.2.1 (kT c k, v) :: .ref (g.2.1 o) :: z_st g st := by
    rw [← z_ref h0, ht]; rfl
  rw [es]
  have hnf : narrow (ty k) (z_val g.2.1 (kT c k, v)) = z_val g.2.1 (kT c k, v) ∧ fits (ty k) (z_val g.2.1 (kT c k, v)) = true := by
    rw [ht]
    generalize ty k = t at f9
    cases t <;> simp only [tyTag] at f9 <;> first | (exfalso; omega) | (rcases hv with rfl | rfl <;> exact ⟨rfl, rfl⟩)
  refine va_put (D := g.2.2.1) (ty := ty k) X.1 X.2.1 (z_X_ts X) (zT_lay f4) ty f5 f6 X.2.2.2.1 X.2.2.2.2.2.1.1 hP.1 hP.2 hS o.toNat hE f1 k f2 (X.2.2.2.2.1 _ f3 rfl) (fun _ h9 => h9) f8 (f5 k f2) hnf.1 hnf.2 (by simp [f7, f2]) hd (fun H1 locs1 hP1 hD1 hS1 => ?_)
  have e := z_set (g := g) (h := h) (n := n) (o := o) (v := v) (k := k) h0 hn (z_E_put ho f10 (by omega))
  rw [e] at hP1 hD1
  exact kk H1 locs1 lsA ⟨hP1, hD1⟩ (z_R_put hR (by rw [z_kS_obj ho f10, ht]; exact hok)) hS1 hl hol (okT (okT hos))
end HEAP
