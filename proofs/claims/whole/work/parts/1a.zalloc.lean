/-! new cells: the k-th has the address base + k -/
def z_lin (g : GP) : Prop := ∀ k : Nat, g.2.1 (k : Int) = g.1 + k
def dfl (a j : Int) : Int := if kS a j = 2 then -1 else 0
def hnew (h : Hp) (n : Int) : Hp := fun a j => if a = n then dfl a j else h a j
theorem z_R_new {h : Hp} {n : Int} (H : z_R h) : z_R (hnew h n) := by
  intro a j
  unfold hnew
  by_cases e : a = n
  · rw [if_pos e]
    unfold dfl
    generalize kS a j = t
    rcases t with _ | _ | t
    · exact r32_0
    · exact r64_0
    · by_cases e2 : t + 1 + 1 = 2
      · rw [if_pos e2]; exact trivial
      · rw [if_neg e2]; exact trivial
  · rw [if_neg e]; exact H a j
theorem z_E_new {g : GP} {h : Hp} {n a : Int} (e : a ≠ n) : z_E g (hnew h n) a = z_E g h a := by
  have h1 : ∀ b, hnew h n a b = h a b := fun b => by unfold hnew; rw [if_neg e]
  unfold z_E
  simp only [h1]
section ALLOC
variable {g : GP} {x : CX} {own : String} {cc : ByteArray} {nL d n n0 : Nat} {h : Hp} {ce sl pc : Nat} {ls : List (Nat × TV)} {st : List TV}
theorem z_size {H : Heap} {T : State} {locs : List Loc} (hlin : z_lin g) (hs0 : (xs x).heap.size = g.1 + n0) (hn : n = n0 + ce) (hP : z_P g n h H) (hT : T.heap = H) (XS : Stand (xp x) (xl x) (xe x) (xR x) (xs x) (xm x) (xa x) (xb x) (xme x) (xc x) T locs ce sl) (hS : va_S (zA g) (xs x).heap H locs) : H.size = g.1 + n := by
  have h1 : T.heap.size ≤ (xs x).heap.size + ce := XS.same.2.2.1
  have h2 := hS.1
  rw [hT] at h1
  by_cases hc : ce = 0
  · omega
  · have h3 := (hP.1 (n - 1) _ (z_W_at g h (k := n - 1) (by omega))).lt
    have h4 := hlin (n - 1)
    simp only at h3
    omega
theorem z_fresh {H1 : Heap} {q : Nat} {e : va_E} (hlin : z_lin g) (hP1 : va_P g.2.2.1 vwCl (z_W g n h ++ [(q, e)]) H1) (hD1 : va_D (zA g) (z_W g n h ++ [(q, e)])) (hz : H1.size ≤ g.1 + n + 1) : q = g.2.1 (n : Int) := by
  have hl : (z_W g n h).length = n := by simp [z_W]
  have hq : (z_W g n h ++ [(q, e)])[n]? = some (q, e) := by
    rw [List.getElem?_append_right (by omega), hl]; simp
  have h1 := (hP1 n _ hq).lt
  have h2 := hD1.2 n _ hq
  have h3 := hlin n
  simp only at h1
  unfold zA at h2
  simp only at h2
  by_cases hlt : q < g.1 + n
  · exfalso
    have hk : q - g.1 < n := by omega
    have h4 : (z_W g n h ++ [(q, e)])[q - g.1]? = some (g.2.1 ((q - g.1 : Nat) : Int), z_E g h ((q - g.1 : Nat) : Int)) := by
      rw [List.getElem?_append_left (by omega)]; exact z_W_at g h hk
    have h5 := hlin (q - g.1)
    have := hD1.1 _ _ _ _ h4 hq (by simp only; omega)
    omega
  · omega
theorem z_hA (X : zX g x own cc nL d) : ∀ q, (xs x).heap.size ≤ q → zA g q := fun q hq => Nat.le_trans X.2.2.2.2.2.1.2.2.1 hq
/-- what 'new' links: class number, words -/
def zNW (own : String) (ix : Nat) (c : Int) (N : Nat) : Prop := ∃ (C : String) (T : u_T) (ty : Nat → FieldType), vwCl[c.toNat]? = some (C, T, N) ∧ c < 20 ∧ kF c = N ∧ Cond.classLink own ix C ∈ lw_tbl ∧ Cond.instantiable C N ∈ lw_tbl ∧ Cond.initialized C ∈ lw_tbl ∧ (∀ w ∈ u_ws C T N, w ∈ lw_tbl) ∧ (∀ k, k < N → parseFieldDescriptor (T k).2.2.1 = some (ty k)) ∧ ∀ k, k < N → kT c k ≤ 2 ∧ defaultValue (ty k) = z_val (fun _ => 0) (kT c k, if kT c k = 2 then -1 else 0)
theorem z_dval (ad : Int → Nat) {t : Nat} (ht : t ≤ 2) : z_val ad (t, if t = 2 then -1 else 0) = z_val (fun _ => 0) (t, if t = 2 then -1 else 0) := by
  rcases t with _ | _ | _ | t
  · rfl
  · rfl
  · rfl
  · omega
theorem z_new (X : zX g x own cc nL d) (hlin : z_lin g) (hs0 : (xs x).heap.size = g.1 + n0) (hn : n = n0 + ce) {ix N : Nat} {c : Int} (F : zNW own ix c N) (hd : decode cc pc = .ok (.new ix, 3)) (hk : kK (n : Int) = c) (hc : ce + 1 ≤ (xR x).cells) (hsl : sl + N ≤ (xR x).slots) (k : ZW g x nL (n + 1) (hnew h n) (ce + 1) (sl + N) (pc + 3) ls ((2, (n : Int)) :: st)) : ZW g x nL n h ce sl pc ls st := by
  intro H locs lsA hP hR hS hl hol hos T hT XS
  obtain ⟨C, T', ty, f1, f2, f3, f4, f5, f6, f7, f8, f9⟩ := F
  refine va_new (D := g.2.2.1) (A := zA g) (fs := (List.range N).map (fun j => z_val g.2.1 (kT c j, hnew h n n j))) X.1 X.2.1 (z_X_ts X) (zT_lay f7) ty f8 X.2.2.2.1 (X.2.2.2.2.1 _ f4 rfl) (X.2.2.2.2.1 _ f5 rfl) (X.2.2.2.2.1 _ f6 rfl) X.2.2.2.2.2.1.1 hP.1 hP.2 hS (z_hA X) f1 (fun j hj => ?_) hc hsl hd (fun q H1 hP1 hD1 hS1 => ?_) T hT XS
  · rw [(f9 j hj).2, ← z_dval g.2.1 (f9 j hj).1]
    have e : hnew h n n j = if kT c j = 2 then -1 else 0 := by
      unfold hnew dfl; rw [if_pos rfl, z_kS_obj hk f2]
    simp [vp_V, hj, e]
  · intro T2 hT2 XS2
    have hz : T2.heap.size ≤ (xs x).heap.size + (ce + 1) := XS2.same.2.2.1
    rw [hT2] at hz
    have hq := z_fresh hlin hP1 hD1 (by omega)
    subst hq
    have e := z_W_push g h (hnew h n) (n := n) (.inr (c.toNat, (List.range N).map (fun j => z_val g.2.1 (kT c j, hnew h n n j)))) (by rw [z_E_obj hk f2, f3]) (fun j hj => z_E_new (by omega))
    rw [e] at hP1 hD1
    have := k H1 locs lsA ⟨hP1, hD1⟩ (z_R_new hR) hS1 hl hol (okR hos) T2 hT2
    rw [z_ref (by omega)] at this
    exact this XS2
theorem z_newaI (X : zX g x own cc nL d) (hlin : z_lin g) (hs0 : (xs x).heap.size = g.1 + n0) (hn : n = n0 + ce) {len : Int} (hw : Cond.arrayClass .int ∈ lw_tbl) (hd : decode cc pc = .ok (.newarray .int, 2)) (hk : kK (n : Int) = 21) (hL : kL (n : Int) = len) (hc : ce + 1 ≤ (xR x).cells) (hsl : sl + len.toNat ≤ (xR x).slots) (k : ZW g x nL (n + 1) (hnew h n) (ce + 1) (sl + len.toNat) (pc + 2) ls ((2, (n : Int)) :: st)) : ZW g x nL n h ce sl pc ls ((0, len) :: st) := by
  intro H locs lsA hP hR hS hl hol hos T hT XS
  have hr : r32 len := okI1 hos
  have hb := kL_nn (n : Int)
  rw [hL] at hb
  have hz0 : ∀ j : Int, hnew h n n j = 0 := fun j => by unfold hnew dfl; rw [if_pos rfl, z_kS_arr (by omega)]; rfl
  refine va_newa (D := g.2.2.1) (A := zA g) (atype := .int) (ty := .int) (a0 := (len.toNat, .inl (fun j => i32 (hnew h n n j)))) X.1 X.2.1 (X.2.2.2.2.1 _ hw rfl) rfl X.2.2.2.2.2.1.1 hP.1 hP.2 hS (z_hA X) (fun cA => ?_) ?_ (clamp_i hr) ?_ hc hsl hd (fun q cA H1 hK1 hP1 hD1 hS1 => ?_) T hT XS
  · rw [vp_cell_i]; simp only [hz0]; rfl
  · rw [z_lt0 hr]; omega
  · show len.toNat * 4 ≤ _; omega
  · intro T2 hT2 XS2
    have hz : T2.heap.size ≤ (xs x).heap.size + (ce + 1) := XS2.same.2.2.1
    rw [hT2] at hz
    have hcl : cA = g.2.2.2 21 := by
      have a1 := (hK1.2 5 (cA, .int) rfl).2
      have a2 := (hK1.2 1 (g.2.2.2 21, .int) rfl).2
      exact Option.some.inj (a1.symm.trans a2)
    subst hcl
    have hq := z_fresh hlin hP1 hD1 (by omega)
    subst hq
    have e := z_W_push g h (hnew h n) (n := n) (.inl (g.2.2.2 21, len.toNat, .inl (fun j => i32 (hnew h n n j)))) (by rw [z_E_int hk, hL]) (fun j hj => z_E_new (by omega))
    rw [e] at hP1 hD1
    have := k H1 locs lsA ⟨hP1, hD1⟩ (z_R_new hR) hS1 hl hol (okR (okT hos)) T2 hT2
    rw [z_ref (by omega)] at this
    exact this XS2
theorem z_newaB (X : zX g x own cc nL d) (hlin : z_lin g) (hs0 : (xs x).heap.size = g.1 + n0) (hn : n = n0 + ce) {len : Int} (hw : Cond.arrayClass .byte ∈ lw_tbl) (hd : decode cc pc = .ok (.newarray .byte, 2)) (hk : kK (n : Int) = 20) (hL : kL (n : Int) = len) (hc : ce + 1 ≤ (xR x).cells) (hsl : sl + len.toNat ≤ (xR x).slots) (k : ZW g x nL (n + 1) (hnew h n) (ce + 1) (sl + len.toNat) (pc + 2) ls ((2, (n : Int)) :: st)) : ZW g x nL n h ce sl pc ls ((0, len) :: st) := by
  intro H locs lsA hP hR hS hl hol hos T hT XS
  have hr : r32 len := okI1 hos
  have hb := kL_nn (n : Int)
  rw [hL] at hb
  have hz0 : ∀ j : Int, hnew h n n j = 0 := fun j => by unfold hnew dfl; rw [if_pos rfl, z_kS_arr (by omega)]; rfl
  refine va_newa (D := g.2.2.1) (A := zA g) (atype := .byte) (ty := .byte) (a0 := (len.toNat, .inl (fun j => i32 (hnew h n n j)))) X.1 X.2.1 (X.2.2.2.2.1 _ hw rfl) rfl X.2.2.2.2.2.1.1 hP.1 hP.2 hS (z_hA X) (fun cA => ?_) ?_ (clamp_i hr) ?_ hc hsl hd (fun q cA H1 hK1 hP1 hD1 hS1 => ?_) T hT XS
  · rw [vp_cell_i]; simp only [hz0]; rfl
  · rw [z_lt0 hr]; omega
  · show len.toNat * 1 ≤ _; omega
  · intro T2 hT2 XS2
    have hz : T2.heap.size ≤ (xs x).heap.size + (ce + 1) := XS2.same.2.2.1
    rw [hT2] at hz
    have hcl : cA = g.2.2.2 20 := by
      have a1 := (hK1.2 5 (cA, .byte) rfl).2
      have a2 := (hK1.2 0 (g.2.2.2 20, .byte) rfl).2
      exact Option.some.inj (a1.symm.trans a2)
    subst hcl
    have hq := z_fresh hlin hP1 hD1 (by omega)
    subst hq
    have e := z_W_push g h (hnew h n) (n := n) (.inl (g.2.2.2 20, len.toNat, .inl (fun j => i32 (hnew h n n j)))) (by rw [z_E_byte hk, hL]) (fun j hj => z_E_new (by omega))
    rw [e] at hP1 hD1
    have := k H1 locs lsA ⟨hP1, hD1⟩ (z_R_new hR) hS1 hl hol (okR (okT hos)) T2 hT2
    rw [z_ref (by omega)] at this
    exact this XS2
theorem z_newaZ (X : zX g x own cc nL d) (hlin : z_lin g) (hs0 : (xs x).heap.size = g.1 + n0) (hn : n = n0 + ce) {len : Int} (hw : Cond.arrayClass .boolean ∈ lw_tbl) (hd : decode cc pc = .ok (.newarray .boolean, 2)) (hk : kK (n : Int) = 23) (hL : kL (n : Int) = len) (hc : ce + 1 ≤ (xR x).cells) (hsl : sl + len.toNat ≤ (xR x).slots) (k : ZW g x nL (n + 1) (hnew h n) (ce + 1) (sl + len.toNat) (pc + 2) ls ((2, (n : Int)) :: st)) : ZW g x nL n h ce sl pc ls ((0, len) :: st) := by
  intro H locs lsA hP hR hS hl hol hos T hT XS
  have hr : r32 len := okI1 hos
  have hb := kL_nn (n : Int)
  rw [hL] at hb
  have hz0 : ∀ j : Int, hnew h n n j = 0 := fun j => by unfold hnew dfl; rw [if_pos rfl, z_kS_arr (by omega)]; rfl
  refine va_newa (D := g.2.2.1) (A := zA g) (atype := .boolean) (ty := .boolean) (a0 := (len.toNat, .inl (fun j => i32 (hnew h n n j)))) X.1 X.2.1 (X.2.2.2.2.1 _ hw rfl) rfl X.2.2.2.2.2.1.1 hP.1 hP.2 hS (z_hA X) (fun cA => ?_) ?_ (clamp_i hr) ?_ hc hsl hd (fun q cA H1 hK1 hP1 hD1 hS1 => ?_) T hT XS
  · rw [vp_cell_i]; simp only [hz0]; rfl
  · rw [z_lt0 hr]; omega
  · show len.toNat * 1 ≤ _; omega
  · intro T2 hT2 XS2
    have hz : T2.heap.size ≤ (xs x).heap.size + (ce + 1) := XS2.same.2.2.1
    rw [hT2] at hz
    have hcl : cA = g.2.2.2 23 := by
      have a1 := (hK1.2 5 (cA, .boolean) rfl).2
      have a2 := (hK1.2 3 (g.2.2.2 23, .boolean) rfl).2
      exact Option.some.inj (a1.symm.trans a2)
    subst hcl
    have hq := z_fresh hlin hP1 hD1 (by omega)
    subst hq
    have e := z_W_push g h (hnew h n) (n := n) (.inl (g.2.2.2 23, len.toNat, .inl (fun j => i32 (hnew h n n j)))) (by rw [z_E_bool hk, hL]) (fun j hj => z_E_new (by omega))
    rw [e] at hP1 hD1
    have := k H1 locs lsA ⟨hP1, hD1⟩ (z_R_new hR) hS1 hl hol (okR (okT hos)) T2 hT2
    rw [z_ref (by omega)] at this
    exact this XS2
theorem z_newaJ (X : zX g x own cc nL d) (hlin : z_lin g) (hs0 : (xs x).heap.size = g.1 + n0) (hn : n = n0 + ce) {len : Int} (hw : Cond.arrayClass .long ∈ lw_tbl) (hd : decode cc pc = .ok (.newarray .long, 2)) (hk : kK (n : Int) = 22) (hL : kL (n : Int) = len) (hc : ce + 1 ≤ (xR x).cells) (hsl : sl + len.toNat ≤ (xR x).slots) (k : ZW g x nL (n + 1) (hnew h n) (ce + 1) (sl + len.toNat) (pc + 2) ls ((2, (n : Int)) :: st)) : ZW g x nL n h ce sl pc ls ((0, len) :: st) := by
  intro H locs lsA hP hR hS hl hol hos T hT XS
  have hr : r32 len := okI1 hos
  have hb := kL_nn (n : Int)
  rw [hL] at hb
  have hz0 : ∀ j : Int, hnew h n n j = 0 := fun j => by unfold hnew dfl; rw [if_pos rfl, z_kS_long hk]; rfl
  refine va_newa (D := g.2.2.1) (A := zA g) (atype := .long) (ty := .long) (a0 := (len.toNat, .inr (.inl (fun j => i64 (hnew h n n j))))) X.1 X.2.1 (X.2.2.2.2.1 _ hw rfl) rfl X.2.2.2.2.2.1.1 hP.1 hP.2 hS (z_hA X) (fun cA => ?_) ?_ (clamp_i hr) ?_ hc hsl hd (fun q cA H1 hK1 hP1 hD1 hS1 => ?_) T hT XS
  · rw [vp_cell_l]; simp only [hz0]; rfl
  · rw [z_lt0 hr]; omega
  · show len.toNat * 8 ≤ _; omega
  · intro T2 hT2 XS2
    have hz : T2.heap.size ≤ (xs x).heap.size + (ce + 1) := XS2.same.2.2.1
    rw [hT2] at hz
    have hcl : cA = g.2.2.2 22 := by
      have a1 := (hK1.2 5 (cA, .long) rfl).2
      have a2 := (hK1.2 2 (g.2.2.2 22, .long) rfl).2
      exact Option.some.inj (a1.symm.trans a2)
    subst hcl
    have hq := z_fresh hlin hP1 hD1 (by omega)
    subst hq
    have e := z_W_push g h (hnew h n) (n := n) (.inl (g.2.2.2 22, len.toNat, .inr (.inl (fun j => i64 (hnew h n n j))))) (by rw [z_E_long hk, hL]) (fun j hj => z_E_new (by omega))
    rw [e] at hP1 hD1
    have := k H1 locs lsA ⟨hP1, hD1⟩ (z_R_new hR) hS1 hl hol (okR (okT hos)) T2 hT2
    rw [z_ref (by omega)] at this
    exact this XS2
end ALLOC
