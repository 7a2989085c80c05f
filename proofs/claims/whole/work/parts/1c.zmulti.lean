/-! new int[a][b]: the outer row, then the inner ones -/
theorem z_D_lin {g : GP} (hlin : z_lin g) (n : Nat) (h : Hp) : va_D (zA g) (z_W g n h) := by
  have key : ∀ (k : Nat) (q : Nat × va_E), (z_W g n h)[k]? = some q → q.1 = g.1 + k := by
    intro k q hk
    have hl : k < n := by
      have := (List.getElem?_eq_some_iff.mp hk).1
      simpa [z_W] using this
    rw [z_W_at g h hl] at hk
    cases hk
    exact hlin k
  refine ⟨fun i j p q hi hj he => ?_, fun k q hk => ?_⟩
  · have h1 := key i p hi
    have h2 := key j q hj
    omega
  · show g.1 ≤ q.1
    rw [key k q hk]; omega
def hmul (h : Hp) (n a : Int) : Hp := fun c j => if c = n then (if 0 ≤ j ∧ j < a then n + 1 + j else -1) else if n < c ∧ c ≤ n + a then 0 else h c j
theorem z_outer (c : ClassId) (N h0 : Nat) : ∀ i : Nat, Jvm.Free.Multi.outerC c N h0 i = arrV c N (fun j => va_rf (if j < i then some (h0 + 1 + j) else none))
  | 0 => by
    show ({ cls := c, slots := Array.replicate N .null, vm := .none } : Cell) = _
    rw [arrV_new]
    refine congrArg (arrV c N) (funext fun j => ?_)
    simp [va_rf]
  | i + 1 => by
    show (Jvm.Free.Multi.outerC c N h0 i).setSlot i (.ref (h0 + 1 + i)) = _
    rw [z_outer c N h0 i, arrV_store]
    refine congrArg (arrV c N) (funext fun j => ?_)
    by_cases e : j = i
    · subst e
      simp [updV, va_rf]
    · by_cases h : j < i
      · simp [updV, e, h, Nat.lt_succ_of_lt h]
      · simp [updV, e, h, show ¬ j < i + 1 by omega]
theorem z_innerC (c : ClassId) (M : Nat) : Jvm.Free.Multi.innerC c M (defaultValue .int) = arrV c M (fun _ => .int 0) := by
  show ({ cls := c, slots := Array.replicate M (.int 0), vm := .none } : Cell) = _
  rw [arrV_new]
theorem z_mna {g : GP} {x : CX} {own : String} {cc : ByteArray} {nL d n n0 : Nat} {h : Hp} {ce sl pc : Nat} {ls : List (Nat × TV)} {st : List TV} (X : zX g x own cc nL d) (hlin : z_lin g) (hs0 : (xs x).heap.size = g.1 + n0) (hn : n = n0 + ce) (hao : z_ao (xs x)) {ix : Nat} {a b : Int} (hw : Cond.classLink own ix "[[I" ∈ lw_tbl) (hwa : Cond.arrayClass .int ∈ lw_tbl) (hd : decode cc pc = .ok (.multianewarray ix 2, 4)) (ha0 : 0 ≤ a) (hb0 : 0 ≤ b) (ha1 : a < 1000) (hb1 : b < 65536)
    (hk : kK (n : Int) = 24) (hL : kL (n : Int) = a) (hrow : ∀ i : Nat, i < a.toNat → kK ((n + 1 + i : Nat) : Int) = 21 ∧ kL ((n + 1 + i : Nat) : Int) = b) (hc : ce + (1 + a.toNat) ≤ (xR x).cells) (hsl : sl + (a.toNat + a.toNat * b.toNat) ≤ (xR x).slots)
    (k : ZW g x nL (n + 1 + a.toNat) (hmul h n a) (ce + 1 + a.toNat) (sl + a.toNat + a.toNat * b.toNat) (pc + 4) ls ((2, (n : Int)) :: st)) : ZW g x nL n h ce sl pc ls ((0, b) :: (0, a) :: st) := by
  intro H locs lsA hP hR hS hl hol hos T hT XS
  have hsz := z_size hlin hs0 hn hP hT XS hS
  have hra : r32 a := okI2 hos
  have hrb : r32 b := okI1 hos
  have ca : (i32 a).toNatClampNeg = a.toNat := clamp_i hra
  have cb : (i32 b).toNatClampNeg = b.toNat := clamp_i hrb
  obtain ⟨vm₁, cA, comp, -, fA, fC, hO, -, X', step⟩ := XS.multianewarray2F (ty := .int) X.1 X.2.2.2.1 (X.2.2.2.2.1 _ hw rfl) hao (X.2.2.2.2.1 _ hwa rfl) (g := F0 (xm x) pc lsA (.int (i32 b) :: .int (i32 a) :: z_st g st)) rfl (by rw [X.2.1]; exact hd) rfl (by rw [z_lt0 hra]; omega) (by rw [z_lt0 hrb]; omega) (by rw [ca]; omega) (by rw [cb]; show b.toNat * 4 ≤ _; omega) (by rw [cb]; omega) rfl rfl (by rw [ca]; exact hc) (by rw [ca, cb]; exact hsl)
  rw [ca, cb] at X' step
  have ecA : cA = g.2.2.2 24 := Option.some.inj (fA.symm.trans (X.2.2.2.2.2.1.1.2 4 (g.2.2.2 24, .array .int) rfl).2)
  have eco : comp = g.2.2.2 21 := Option.some.inj (fC.symm.trans (X.2.2.2.2.2.1.1.2 1 (g.2.2.2 21, .int) rfl).2)
  subst ecA
  subst eco
  generalize hF : Jvm.Free.Multi.fill (T.setVm vm₁) (g.2.2.2 24) (g.2.2.2 21) a.toNat b.toNat (defaultValue .int) a.toNat = F at X' step
  have hTh : (T.setVm vm₁).heap = H := hT
  obtain ⟨f1, f2, -, -⟩ := Jvm.Free.Multi.fill_facts (T.setVm vm₁) (g.2.2.2 24) (g.2.2.2 21) a.toNat b.toNat (defaultValue .int) a.toNat
  rw [hF, hTh] at f1 f2
  have hold : ∀ q : Nat, q < H.size → F.heap[q]? = H[q]? := fun q hq => by
    have := Jvm.Free.Multi.fill_old (T.setVm vm₁) (g.2.2.2 24) (g.2.2.2 21) a.toNat b.toNat (defaultValue .int) (a := q) (by rw [hTh]; exact hq) a.toNat
    rw [hF, hTh] at this
    exact this
  have hin : ∀ j : Nat, j < a.toNat → F.heap[H.size + 1 + j]? = some (arrV (g.2.2.2 21) b.toNat (fun _ => .int 0)) := fun j hj => by
    have := Jvm.Free.Multi.fill_inner (T.setVm vm₁) (g.2.2.2 24) (g.2.2.2 21) a.toNat b.toNat (defaultValue .int) a.toNat j hj
    rw [hF, hTh, z_innerC] at this
    exact this
  rw [z_outer] at f2
  have hEo : ∀ c : Nat, c < n → z_E g (hmul h n a) (c : Int) = z_E g h (c : Int) := fun c hcn => by
    have h1 : ∀ j, hmul h n a c j = h c j := fun j => by
      unfold hmul; rw [if_neg (by omega), if_neg (by omega)]
    unfold z_E; simp only [h1]
  have hP' : va_P g.2.2.1 vwCl (z_W g (n + 1 + a.toNat) (hmul h n a)) F.heap := by
    intro c q hq
    have hcl : c < n + 1 + a.toNat := by
      have := (List.getElem?_eq_some_iff.mp hq).1
      simpa [z_W] using this
    rw [z_W_at g _ hcl] at hq
    cases hq
    by_cases h1 : c < n
    · rw [hEo c h1]
      exact (hP.1 c _ (z_W_at g h h1)).kept (hold _ (by have := hlin c; simp only; omega))
    · by_cases h2 : c = n
      · subst h2
        rw [z_E_row hk, hL]
        show F.heap[g.2.1 (c : Int)]? = some (vp_cell _ _)
        rw [hlin c, ← hsz, f2, vp_cell_q]
        refine congrArg (fun z => some (arrV (g.2.2.2 24) a.toNat z)) (funext fun j => ?_)
        unfold hmul
        rw [if_pos rfl]
        by_cases hj : j < a.toNat
        · have e1 : (if (0 : Int) ≤ (j : Int) ∧ (j : Int) < a then (c : Int) + 1 + (j : Int) else -1) = (c : Int) + 1 + (j : Int) := if_pos (by omega)
          rw [if_pos hj, e1, if_neg (by omega)]
          have := hlin (c + 1 + j)
          rw [show ((c : Int) + 1 + (j : Int)) = ((c + 1 + j : Nat) : Int) by omega, this]
          congr 2
          omega
        · have e1 : (if (0 : Int) ≤ (j : Int) ∧ (j : Int) < a then (c : Int) + 1 + (j : Int) else -1) = -1 := if_neg (by omega)
          rw [if_neg hj, e1, if_pos rfl]
      · have h3 : c = n + 1 + (c - n - 1) := by omega
        have hr := hrow (c - n - 1) (by omega)
        rw [← h3] at hr
        rw [z_E_int hr.1, hr.2]
        show F.heap[g.2.1 (c : Int)]? = some (vp_cell _ _)
        have := hin (c - n - 1) (by omega)
        rw [hlin c, show g.1 + c = H.size + 1 + (c - n - 1) by omega, this, vp_cell_i]
        refine congrArg (fun z => some (arrV (g.2.2.2 21) b.toNat z)) (funext fun j => ?_)
        unfold hmul
        rw [if_neg (by omega), if_pos (by omega)]
        rfl
  have hR' : z_R (hmul h n a) := by
    intro c j
    unfold hmul
    by_cases h1 : c = n
    · rw [if_pos h1, h1]
      have : kS (n : Int) j = 2 := by unfold kS; rw [hk]; rfl
      rw [this]; exact trivial
    · rw [if_neg h1]
      by_cases h2 : (n : Int) < c ∧ c ≤ n + a
      · rw [if_pos h2]
        have h4 := hrow (c.toNat - n - 1) (by omega)
        rw [show ((n + 1 + (c.toNat - n - 1) : Nat) : Int) = c by omega] at h4
        rw [z_kS_arr (by omega)]
        exact r32_0
      · rw [if_neg h2]; exact hR c j
  obtain ⟨t, a1, b1⟩ := k F.heap locs lsA ⟨hP', z_D_lin hlin _ _⟩ hR' ⟨by rw [f1]; have := hS.1; omega, fun q h1 h2 => (hold q (Nat.lt_of_lt_of_le h1 hS.1)).trans (hS.2.1 q h1 h2), hS.2.2⟩ hl hol (okR (okT (okT hos))) F rfl X'
  refine ⟨t, step t ?_, b1⟩
  rw [z_ref (by omega)] at a1
  have e : T.heap.size = g.2.1 (n : Int) := by rw [hT, hsz, hlin n]
  rw [e]
  exact a1
