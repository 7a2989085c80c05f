/-! the three tables; rows of rows; loops -/
section STAT
variable {g : GP} {x : CX} {own : String} {cc : ByteArray} {nL d n : Nat} {h : Hp} {ce sl pc : Nat} {ls : List (Nat × TV)} {st : List TV}
theorem z_gets (X : zX g x own cc nL d) {ix N : Nat} {nm : String} {r : Int} {f : Int → Int} (hr : r ≠ -1) (hw : Cond.fieldLink own ix "CrossReader$Chart" nm "[I" ∈ lw_tbl) (hZ : z_st1 g nm r N f (xs x)) (hd : decode cc pc = .ok (.getstatic ix, 3)) (k : ZW g x nL n h ce sl (pc + 3) ls ((2, r) :: st)) : ZW g x nL n h ce sl pc ls st := by
  intro H locs lsA hP hR hS hl hol hos
  have h1 := k H locs lsA hP hR hS hl hol (okR hos)
  have e : z_st g ((2, r) :: st) = .ref (g.2.1 r) :: z_st g st := by simp [z_st, z_val2 _ hr]
  rw [e] at h1
  exact va_gets X.1 X.2.1 hZ.1 hS X.2.2.2.1 (X.2.2.2.2.1 _ hw rfl) (fun _ q => q) hd h1
theorem z_tald (X : zX g x own cc nL d) {N : Nat} {nm : String} {r i : Int} {f : Int → Int} (hr : r ≠ -1) (hZ : z_st1 g nm r N f (xs x)) (hd : decode cc pc = .ok (.iaload, 1)) (h0 : 0 ≤ i) (h1 : i < N) (hf : r32 (f i)) (k : ZW g x nL n h ce sl (pc + 1) ls ((0, f i) :: st)) : ZW g x nL n h ce sl pc ls ((0, i) :: (2, r) :: st) := by
  intro H locs lsA hP hR hS hl hol hos
  have h2 := k H locs lsA hP hR hS hl hol (okI hf (okT (okT hos)))
  have e : z_st g ((0, i) :: (2, r) :: st) = .int (i32 i) :: .ref (g.2.1 r) :: z_st g st := by simp [z_st, z_val2 _ hr, z_val0]
  rw [e]
  refine va_ti X.1 X.2.1 hZ.2 hS (vp_in_i (okI1 hos) h0 h1) ?_ hd h2
  rw [clamp_i (okI1 hos), z_ix h0]
  rfl
theorem sJ_r {i : Int} (h0 : 0 ≤ i) (h1 : i < 10) : r32 (sJ i) := by
  have : ∀ k : Nat, k < 10 → -2147483648 ≤ sJ (k : Int) ∧ sJ (k : Int) < 2147483648 := by decide
  have := this i.toNat (by omega)
  rw [z_ix h0] at this
  exact this
theorem sQ_r {i : Int} (h0 : 0 ≤ i) (h1 : i < 9) : r32 (sQ i) := by
  have : ∀ k : Nat, k < 9 → -2147483648 ≤ sQ (k : Int) ∧ sQ (k : Int) < 2147483648 := by decide
  have := this i.toNat (by omega)
  rw [z_ix h0] at this
  exact this
theorem sP_r {i : Int} (h0 : 0 ≤ i) (h1 : i < 9) : r32 (sP i) := by
  have : ∀ k : Nat, k < 9 → -2147483648 ≤ sP (k : Int) ∧ sP (k : Int) < 2147483648 := by decide
  have := this i.toNat (by omega)
  rw [z_ix h0] at this
  exact this
theorem z_getJ (X : zX g x own cc nL d) {ix : Nat} (hw : Cond.fieldLink own ix "CrossReader$Chart" "BY_J" "[I" ∈ lw_tbl) (hd : decode cc pc = .ok (.getstatic ix, 3)) (k : ZW g x nL n h ce sl (pc + 3) ls ((2, -2) :: st)) : ZW g x nL n h ce sl pc ls st := z_gets X (by decide) hw X.2.2.2.2.2.1.2.2.2.1 hd k
theorem z_getQ (X : zX g x own cc nL d) {ix : Nat} (hw : Cond.fieldLink own ix "CrossReader$Chart" "BY_Q" "[I" ∈ lw_tbl) (hd : decode cc pc = .ok (.getstatic ix, 3)) (k : ZW g x nL n h ce sl (pc + 3) ls ((2, -3) :: st)) : ZW g x nL n h ce sl pc ls st := z_gets X (by decide) hw X.2.2.2.2.2.1.2.2.2.2.1 hd k
theorem z_getP (X : zX g x own cc nL d) {ix : Nat} (hw : Cond.fieldLink own ix "CrossReader$Chart" "BY_P" "[I" ∈ lw_tbl) (hd : decode cc pc = .ok (.getstatic ix, 3)) (k : ZW g x nL n h ce sl (pc + 3) ls ((2, -4) :: st)) : ZW g x nL n h ce sl pc ls st := z_gets X (by decide) hw X.2.2.2.2.2.1.2.2.2.2.2 hd k
theorem z_taldJ (X : zX g x own cc nL d) {i : Int} (hd : decode cc pc = .ok (.iaload, 1)) (h0 : 0 ≤ i) (h1 : i < 10) (k : ZW g x nL n h ce sl (pc + 1) ls ((0, sJ i) :: st)) : ZW g x nL n h ce sl pc ls ((0, i) :: (2, -2) :: st) := z_tald X (by decide) X.2.2.2.2.2.1.2.2.2.1 hd h0 h1 (sJ_r h0 h1) k
theorem z_taldQ (X : zX g x own cc nL d) {i : Int} (hd : decode cc pc = .ok (.iaload, 1)) (h0 : 0 ≤ i) (h1 : i < 9) (k : ZW g x nL n h ce sl (pc + 1) ls ((0, sQ i) :: st)) : ZW g x nL n h ce sl pc ls ((0, i) :: (2, -3) :: st) := z_tald X (by decide) X.2.2.2.2.2.1.2.2.2.2.1 hd h0 h1 (sQ_r h0 h1) k
theorem z_taldP (X : zX g x own cc nL d) {i : Int} (hd : decode cc pc = .ok (.iaload, 1)) (h0 : 0 ≤ i) (h1 : i < 9) (k : ZW g x nL n h ce sl (pc + 1) ls ((0, sP i) :: st)) : ZW g x nL n h ce sl pc ls ((0, i) :: (2, -4) :: st) := z_tald X (by decide) X.2.2.2.2.2.1.2.2.2.2.2 hd h0 h1 (sP_r h0 h1) k
theorem z_E_row {a : Int} (ha : kK a = 24) : z_E g h a = .inl (g.2.2.2 24, (kL a).toNat, .inr (.inr (.inr (.inr (fun j => if h a j = -1 then none else some (g.2.1 (h a j))))))) := by
  unfold z_E; rw [ha]; rfl
theorem z_aald (X : zX g x own cc nL d) {a i : Int} (hd : decode cc pc = .ok (.aaload, 1)) (ha : kK a = 24) (hn : a < n) (h0 : 0 ≤ i) (h1 : i < kL a) (k : ZW g x nL n h ce sl (pc + 1) ls ((2, h a i) :: st)) : ZW g x nL n h ce sl pc ls ((0, i) :: (2, a) :: st) := by
  intro H locs lsA hP hR hS hl hol hos
  have ha0 := (kK_pos (o := a) (by rw [ha]; omega)).1
  have hE := z_cell (g := g) (h := h) ha0 hn
  rw [z_E_row ha] at hE
  have es : z_st g ((0, i) :: (2, a) :: st) = .int (i32 i) :: .ref (g.2.1 a) :: z_st g st := by rw [← z_ref ha0]; rfl
  rw [es]
  have hin := vp_in_i (n := (kL a).toNat) (okI1 hos) h0 (by omega)
  have hlt : (i32 i).toNatClampNeg < (kL a).toNat := Nat.not_le.mp fun q => hin (Or.inr q)
  refine W.aald (v := z_val g.2.1 (2, h a i)) (ty := .array .int) X.1 X.2.1 (hP.1 a.toNat _ hE) ((X.2.2.2.2.2.1.1.2 4 _ rfl).1 _ (fun j => va_rf (if h a j = -1 then none else some (g.2.1 (h a j))))) rfl (fun q => by cases q) (by show ¬ (i32 i < 0 ∨ (arrV _ _ _).slots.size ≤ _); rw [arrV_size]; exact hin) (by
    show (arrV _ _ _).slots[_]? = _
    rw [arrV_read _ _ hlt, clamp_i (okI1 hos)]
    show some (va_rf (if h a ((i.toNat : Nat) : Int) = -1 then none else some (g.2.1 (h a ((i.toNat : Nat) : Int))))) = _
    rw [z_ix h0]
    by_cases e : h a i = -1
    · simp [e, va_rf, z_val]
    · simp [e, va_rf, z_val]) rfl rfl hd ?_
  exact k H locs lsA hP hR hS hl hol (okR (okT (okT hos)))
end STAT
/-! loops of the functions -/
def ob {α β : Type} (a : Option α) (k : α → Option β) : Option β := match a with
  | none => none
  | some r => k r
theorem ob_some {α β : Type} {a : α} {k : α → Option β} : ob (some a) k = k a := rfl
def LN : Nat := 1000000
def loopN {σ ρ : Type} (body : σ → Option (σ ⊕ ρ)) : Nat → σ → Option ρ
  | 0, _ => none
  | n + 1, s => match body s with
    | none => none
    | some (.inl s') => loopN body n s'
    | some (.inr r) => some r
def z_sum {σ ρ : Type} (Z : σ → Prop) (E : ρ → Prop) : σ ⊕ ρ → Prop
  | .inl s => Z s
  | .inr r => E r
theorem z_loop {σ ρ : Type} {body : σ → Option (σ ⊕ ρ)} {Z : σ → Prop} {E : ρ → Prop} (hb : ∀ s y, body s = some y → z_sum Z E y → Z s) : ∀ (n : Nat) (s : σ) (r : ρ), loopN body n s = some r → E r → Z s
  | 0, _, _, h, _ => by simp [loopN] at h
  | n + 1, s, r, h, hE => by
    unfold loopN at h
    cases hx : body s with
    | none => rw [hx] at h; cases h
    | some y =>
      rw [hx] at h
      cases y with
      | inl s' => exact hb s _ hx (z_loop hb n s' r h hE)
      | inr q => cases h; exact hb s _ hx hE
theorem loop_ok {σ ρ : Type} {body : σ → Option (σ ⊕ ρ)} (I : σ → Prop) (μ : σ → Nat) (P : ρ → Prop) (hb : ∀ s, I s → (∃ s', body s = some (.inl s') ∧ I s' ∧ μ s' < μ s) ∨ (∃ r, body s = some (.inr r) ∧ P r)) : ∀ (n : Nat) (s : σ), I s → μ s < n → ∃ r, loopN body n s = some r ∧ P r
  | 0, _, _, h => absurd h (Nat.not_lt_zero _)
  | n + 1, s, hI, h => by
    rcases hb s hI with ⟨s', h1, h2, h3⟩ | ⟨r, h1, h2⟩
    · obtain ⟨r, e, hp⟩ := loop_ok I μ P hb n s' h2 (by omega)
      exact ⟨r, by simp [loopN, h1, e], hp⟩
    · exact ⟨r, by simp [loopN, h1], h2⟩
