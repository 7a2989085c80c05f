/-! arrays, returns, contracts, calls -/
section ARR
variable {g : GP} {x : CX} {own : String} {cc : ByteArray} {nL d n : Nat} {h : Hp} {ce sl pc : Nat} {ls : List (Nat × TV)} {st : List TV}
theorem z_kS_arr {a i : Int} (ha : kK a = 20 ∨ kK a = 21 ∨ kK a = 23) : kS a i = 0 := by
  unfold kS; rcases ha with e | e | e <;> rw [e] <;> rfl
theorem z_kS_long {a i : Int} (ha : kK a = 22) : kS a i = 1 := by unfold kS; rw [ha]; rfl
theorem z_ix {i : Int} (h0 : 0 ≤ i) : ((i.toNat : Nat) : Int) = i := Int.toNat_of_nonneg h0
theorem z_iald (X : zX g x own cc nL d) {a i : Int} (hd : decode cc pc = .ok (.iaload, 1)) (ha : kK a = 21) (hn : a < n) (h0 : 0 ≤ i) (h1 : i < kL a) (k : ZW g x nL n h ce sl (pc + 1) ls ((0, h a i) :: st)) : ZW g x nL n h ce sl pc ls ((0, i) :: (2, a) :: st) := by
  intro H locs lsA hP hR hS hl hol hos
  have ha0 := (kK_pos (o := a) (by rw [ha]; omega)).1
  have hE := z_cell (g := g) (h := h) ha0 hn
  rw [z_E_int ha] at hE
  have es : z_st g ((0, i) :: (2, a) :: st) = .int (i32 i) :: .ref (g.2.1 a) :: z_st g st := by rw [← z_ref ha0]; rfl
  rw [es]
  refine va_iald (D := g.2.2.1) X.1 X.2.1 X.2.2.2.2.2.1.1 hP.1 a.toNat 1 hE rfl (vp_in_i (okI1 hos) h0 (by omega)) hd ?_
  rw [clamp_i (okI1 hos), z_ix h0]
  exact k H locs lsA hP hR hS hl hol (okI (by have := hR a i; rw [z_kS_arr (by omega)] at this; exact this) (okT (okT hos)))
theorem z_bald (X : zX g x own cc nL d) {a i : Int} (hd : decode cc pc = .ok (.baload, 1)) (ha : kK a = 20) (hn : a < n) (h0 : 0 ≤ i) (h1 : i < kL a) (k : ZW g x nL n h ce sl (pc + 1) ls ((0, h a i) :: st)) : ZW g x nL n h ce sl pc ls ((0, i) :: (2, a) :: st) := by
  intro H locs lsA hP hR hS hl hol hos
  have ha0 := (kK_pos (o := a) (by rw [ha]; omega)).1
  have hE := z_cell (g := g) (h := h) ha0 hn
  rw [z_E_byte ha] at hE
  have es : z_st g ((0, i) :: (2, a) :: st) = .int (i32 i) :: .ref (g.2.1 a) :: z_st g st := by rw [← z_ref ha0]; rfl
  rw [es]
  refine va_bald (D := g.2.2.1) X.1 X.2.1 X.2.2.2.2.2.1.1 hP.1 a.toNat 0 hE rfl (vp_in_i (okI1 hos) h0 (by omega)) hd ?_
  rw [clamp_i (okI1 hos), z_ix h0]
  exact k H locs lsA hP hR hS hl hol (okI (by have := hR a i; rw [z_kS_arr (by omega)] at this; exact this) (okT (okT hos)))
theorem z_zald (X : zX g x own cc nL d) {a i : Int} (hd : decode cc pc = .ok (.baload, 1)) (ha : kK a = 23) (hn : a < n) (h0 : 0 ≤ i) (h1 : i < kL a) (k : ZW g x nL n h ce sl (pc + 1) ls ((0, h a i) :: st)) : ZW g x nL n h ce sl pc ls ((0, i) :: (2, a) :: st) := by
  intro H locs lsA hP hR hS hl hol hos
  have ha0 := (kK_pos (o := a) (by rw [ha]; omega)).1
  have hE := z_cell (g := g) (h := h) ha0 hn
  rw [z_E_bool ha] at hE
  have es : z_st g ((0, i) :: (2, a) :: st) = .int (i32 i) :: .ref (g.2.1 a) :: z_st g st := by rw [← z_ref ha0]; rfl
  rw [es]
  refine va_zald (D := g.2.2.1) X.1 X.2.1 X.2.2.2.2.2.1.1 hP.1 a.toNat 3 hE rfl (vp_in_i (okI1 hos) h0 (by omega)) hd ?_
  rw [clamp_i (okI1 hos), z_ix h0]
  exact k H locs lsA hP hR hS hl hol (okI (by have := hR a i; rw [z_kS_arr (by omega)] at this; exact this) (okT (okT hos)))
theorem z_lald (X : zX g x own cc nL d) {a i : Int} (hd : decode cc pc = .ok (.laload, 1)) (ha : kK a = 22) (hn : a < n) (h0 : 0 ≤ i) (h1 : i < kL a) (k : ZW g x nL n h ce sl (pc + 1) ls ((1, h a i) :: st)) : ZW g x nL n h ce sl pc ls ((0, i) :: (2, a) :: st) := by
  intro H locs lsA hP hR hS hl hol hos
  have ha0 := (kK_pos (o := a) (by rw [ha]; omega)).1
  have hE := z_cell (g := g) (h := h) ha0 hn
  rw [z_E_long ha] at hE
  have es : z_st g ((0, i) :: (2, a) :: st) = .int (i32 i) :: .ref (g.2.1 a) :: z_st g st := by rw [← z_ref ha0]; rfl
  rw [es]
  refine va_lald (D := g.2.2.1) X.1 X.2.1 X.2.2.2.2.2.1.1 hP.1 a.toNat 2 hE rfl (vp_in_i (okI1 hos) h0 (by omega)) hd ?_
  rw [clamp_i (okI1 hos), z_ix h0]
  exact k H locs lsA hP hR hS hl hol (okL (by have := hR a i; rw [z_kS_long ha] at this; exact this) (okT (okT hos)))
theorem z_upd {a i v : Int} (h0 : 0 ≤ i) : upd (fun j : Nat => i32 (h a j)) i.toNat (i32 v) = fun j : Nat => i32 (hput h a i v a j) := by
  funext j
  unfold upd hput
  by_cases e : j = i.toNat
  · have : (j : Int) = i := by omega
    simp [e, this, z_ix h0]
  · have : ¬ (j : Int) = i := by omega
    simp [e, this]
theorem z_updL {a i v : Int} (h0 : 0 ≤ i) : vp_updL (fun j : Nat => i64 (h a j)) i.toNat (i64 v) = fun j : Nat => i64 (hput h a i v a j) := by
  funext j
  unfold vp_updL hput
  by_cases e : j = i.toNat
  · have : (j : Int) = i := by omega
    simp [e, this, z_ix h0]
  · have : ¬ (j : Int) = i := by omega
    simp [e, this]
theorem z_iast (X : zX g x own cc nL d) {a i v : Int} (hd : decode cc pc = .ok (.iastore, 1)) (ha : kK a = 21) (hn : a < n) (h0 : 0 ≤ i) (h1 : i < kL a) (k : ZW g x nL n (hput h a i v) ce sl (pc + 1) ls st) : ZW g x nL n h ce sl pc ls ((0, v) :: (0, i) :: (2, a) :: st) := by
  intro H locs lsA hP hR hS hl hol hos
  have ha0 := (kK_pos (o := a) (by rw [ha]; omega)).1
  have hE := z_cell (g := g) (h := h) ha0 hn
  rw [z_E_int ha] at hE
  have es : z_st g ((0, v) :: (0, i) :: (2, a) :: st) = .int (i32 v) :: .int (i32 i) :: .ref (g.2.1 a) :: z_st g st := by rw [← z_ref ha0]; rfl
  rw [es]
  refine va_iast (D := g.2.2.1) X.1 X.2.1 X.2.2.2.2.2.1.1 hP.1 hP.2 hS a.toNat 1 hE rfl (vp_in_i (okI2 hos) h0 (by omega)) hd (fun H1 locs1 hP1 hD1 hS1 => ?_)
  rw [clamp_i (okI2 hos), z_upd h0] at hP1 hD1
  have e := z_set (g := g) (h := h) (n := n) (o := a) (v := v) (k := i) ha0 hn (z_E_int ha)
  rw [e] at hP1 hD1
  exact k H1 locs1 lsA ⟨hP1, hD1⟩ (z_R_put hR (by rw [z_kS_arr (by omega)]; exact ok1 hos)) hS1 hl hol (okT (okT (okT hos)))
theorem z_bast (X : zX g x own cc nL d) {a i v : Int} (hd : decode cc pc = .ok (.bastore, 1)) (ha : kK a = 20) (hn : a < n) (h0 : 0 ≤ i) (h1 : i < kL a) (k : ZW g x nL n (hput h a i (w8 v)) ce sl (pc + 1) ls st) : ZW g x nL n h ce sl pc ls ((0, v) :: (0, i) :: (2, a) :: st) := by
  intro H locs lsA hP hR hS hl hol hos
  have ha0 := (kK_pos (o := a) (by rw [ha]; omega)).1
  have hE := z_cell (g := g) (h := h) ha0 hn
  rw [z_E_byte ha] at hE
  have es : z_st g ((0, v) :: (0, i) :: (2, a) :: st) = .int (i32 v) :: .int (i32 i) :: .ref (g.2.1 a) :: z_st g st := by rw [← z_ref ha0]; rfl
  rw [es]
  refine va_bast (D := g.2.2.1) X.1 X.2.1 X.2.2.2.2.2.1.1 hP.1 hP.2 hS a.toNat 0 hE rfl (vp_in_i (okI2 hos) h0 (by omega)) hd (fun H1 locs1 hP1 hD1 hS1 => ?_)
  rw [clamp_i (okI2 hos), vp_nar_byte, i32_i2b, z_upd h0] at hP1 hD1
  have e := z_set (g := g) (h := h) (n := n) (o := a) (v := w8 v) (k := i) ha0 hn (z_E_byte ha)
  rw [e] at hP1 hD1
  exact k H1 locs1 lsA ⟨hP1, hD1⟩ (z_R_put hR (by rw [z_kS_arr (by omega)]; exact w8_r v)) hS1 hl hol (okT (okT (okT hos)))
theorem z_narb {v : Int} (hv : v = 0 ∨ v = 1) : vp_nar .boolean (i32 v) = i32 v := by
  rcases hv with rfl | rfl <;> decide
theorem z_zast (X : zX g x own cc nL d) {a i v : Int} (hd : decode cc pc = .ok (.bastore, 1)) (ha : kK a = 23) (hn : a < n) (h0 : 0 ≤ i) (h1 : i < kL a) (hv : v = 0 ∨ v = 1) (k : ZW g x nL n (hput h a i v) ce sl (pc + 1) ls st) : ZW g x nL n h ce sl pc ls ((0, v) :: (0, i) :: (2, a) :: st) := by
  intro H locs lsA hP hR hS hl hol hos
  have ha0 := (kK_pos (o := a) (by rw [ha]; omega)).1
  have hE := z_cell (g := g) (h := h) ha0 hn
  rw [z_E_bool ha] at hE
  have es : z_st g ((0, v) :: (0, i) :: (2, a) :: st) = .int (i32 v) :: .int (i32 i) :: .ref (g.2.1 a) :: z_st g st := by rw [← z_ref ha0]; rfl
  rw [es]
  refine va_zast (D := g.2.2.1) X.1 X.2.1 X.2.2.2.2.2.1.1 hP.1 hP.2 hS a.toNat 3 hE rfl (vp_in_i (okI2 hos) h0 (by omega)) hd (fun H1 locs1 hP1 hD1 hS1 => ?_)
  rw [clamp_i (okI2 hos), z_narb hv, z_upd h0] at hP1 hD1
  have e := z_set (g := g) (h := h) (n := n) (o := a) (v := v) (k := i) ha0 hn (z_E_bool ha)
  rw [e] at hP1 hD1
  exact k H1 locs1 lsA ⟨hP1, hD1⟩ (z_R_put hR (by rw [z_kS_arr (by omega)]; exact ok1 hos)) hS1 hl hol (okT (okT (okT hos)))
theorem z_last (X : zX g x own cc nL d) {a i v : Int} (hd : decode cc pc = .ok (.lastore, 1)) (ha : kK a = 22) (hn : a < n) (h0 : 0 ≤ i) (h1 : i < kL a) (k : ZW g x nL n (hput h a i v) ce sl (pc + 1) ls st) : ZW g x nL n h ce sl pc ls ((1, v) :: (0, i) :: (2, a) :: st) := by
  intro H locs lsA hP hR hS hl hol hos
  have ha0 := (kK_pos (o := a) (by rw [ha]; omega)).1
  have hE := z_cell (g := g) (h := h) ha0 hn
  rw [z_E_long ha] at hE
  have es : z_st g ((1, v) :: (0, i) :: (2, a) :: st) = .long (i64 v) :: .int (i32 i) :: .ref (g.2.1 a) :: z_st g st := by rw [← z_ref ha0]; rfl
  rw [es]
  refine va_last (D := g.2.2.1) X.1 X.2.1 X.2.2.2.2.2.1.1 hP.1 hP.2 hS a.toNat 2 hE rfl (vp_in_i (okI2 hos) h0 (by omega)) hd (fun H1 locs1 hP1 hD1 hS1 => ?_)
  rw [clamp_i (okI2 hos), z_updL h0] at hP1 hD1
  have e := z_set (g := g) (h := h) (n := n) (o := a) (v := v) (k := i) ha0 hn (z_E_long ha)
  rw [e] at hP1 hD1
  exact k H1 locs1 lsA ⟨hP1, hD1⟩ (z_R_put hR (by rw [z_kS_long ha]; exact ok1 hos)) hS1 hl hol (okT (okT (okT hos)))
theorem kL_nn (a : Int) : 0 ≤ kL a ∧ kL a < 65536 := by
  unfold kL
  split
  · omega
  · rename_i h0
    by_cases h1 : a.toNat < 157
    · have : ∀ k, k < 157 → 0 ≤ (kTab.getD k (99, 0)).2 ∧ (kTab.getD k (99, 0)).2 < 65536 := by decide +kernel
      exact this _ h1
    · have : kTab.length = 157 := rfl
      rw [List.getD_eq_getElem?_getD, List.getElem?_eq_none (by omega)]
      exact ⟨by decide, by decide⟩
theorem z_alen (X : zX g x own cc nL d) {a : Int} (hd : decode cc pc = .ok (.arraylength, 1)) (ha : kK a = 20 ∨ kK a = 21 ∨ kK a = 22 ∨ kK a = 23) (hn : a < n) (k : ZW g x nL n h ce sl (pc + 1) ls ((0, kL a) :: st)) : ZW g x nL n h ce sl pc ls ((2, a) :: st) := by
  intro H locs lsA hP hR hS hl hol hos
  have ha0 := (kK_pos (o := a) (by omega)).1
  have hE := z_cell (g := g) (h := h) ha0 hn
  rw [z_ref ha0]
  have hk := kL_nn a
  have hv : ∀ m : Nat, m = (kL a).toNat → Int32.ofNat m = i32 (kL a) := by
    intro m hm
    have : ((m : Nat) : Int) = kL a := by omega
    rw [← this]; rfl
  have hr : r32 (kL a) := by unfold r32; omega
  rcases ha with e | e | e | e
  · rw [z_E_byte e] at hE
    exact va_alen (D := g.2.2.1) X.1 X.2.1 X.2.2.2.2.2.1.1 hP.1 a.toNat 0 hE rfl (hv _ rfl) hd (k H locs lsA hP hR hS hl hol (okI hr (okT hos)))
  · rw [z_E_int e] at hE
    exact va_alen (D := g.2.2.1) X.1 X.2.1 X.2.2.2.2.2.1.1 hP.1 a.toNat 1 hE rfl (hv _ rfl) hd (k H locs lsA hP hR hS hl hol (okI hr (okT hos)))
  · rw [z_E_long e] at hE
    exact va_alen (D := g.2.2.1) X.1 X.2.1 X.2.2.2.2.2.1.1 hP.1 a.toNat 2 hE rfl (hv _ rfl) hd (k H locs lsA hP hR hS hl hol (okI hr (okT hos)))
  · rw [z_E_bool e] at hE
    exact va_alen (D := g.2.2.1) X.1 X.2.1 X.2.2.2.2.2.1.1 hP.1 a.toNat 3 hE rfl (hv _ rfl) hd (k H locs lsA hP hR hS hl hol (okI hr (okT hos)))
end ARR
