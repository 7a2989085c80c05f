/-! the world: cells by their number, heap h: cell, slot -> number -/
abbrev Hp : Type := Int → Int → Int
def hput (h : Hp) (o k v : Int) : Hp := fun a b => if a = o ∧ b = k then v else h a b
theorem hput_eq (h : Hp) (o k v : Int) : hput h o k v o k = v := by simp [hput]
theorem hput_ne1 {h : Hp} {o k v a b : Int} (e : a ≠ o) : hput h o k v a b = h a b := by simp [hput, e]
theorem hput_ne2 {h : Hp} {o k v a b : Int} (e : b ≠ k) : hput h o k v a b = h a b := by simp [hput, e]
abbrev TV : Type := Nat × Int
/-- a number with its tag (0 int, 1 long, 2 reference) as a value of the machine -/
def z_val (ad : Int → Nat) (t : TV) : Value := match t.1 with
  | 0 => .int (i32 t.2)
  | 1 => .long (i64 t.2)
  | _ => if t.2 = -1 then .null else .ref (ad t.2)
def z_ok (t : TV) : Prop := match t.1 with
  | 0 => r32 t.2
  | 1 => r64 t.2
  | _ => True
theorem z_val0 (ad : Int → Nat) (x : Int) : z_val ad (0, x) = .int (i32 x) := rfl
theorem z_val1 (ad : Int → Nat) (x : Int) : z_val ad (1, x) = .long (i64 x) := rfl
theorem z_val2 (ad : Int → Nat) {x : Int} (h : x ≠ -1) : z_val ad (2, x) = .ref (ad x) := by
  show (if x = -1 then Value.null else .ref (ad x)) = _
  rw [if_neg h]
theorem z_val2n (ad : Int → Nat) : z_val ad (2, -1) = .null := rfl
theorem z_val_cat (ad : Int → Nat) (t : TV) : (z_val ad t).category = if t.1 = 1 then 2 else 1 := by
  obtain ⟨a, x⟩ := t
  rcases a with _ | _ | a
  · rfl
  · rfl
  · show (if x = -1 then Value.null else .ref (ad x)).category = _
    simp only [show ¬ a + 1 + 1 = 1 by omega, if_false]
    split <;> rfl
/-- base of the own cells, addresses (of -2, -3, -4: the tables), numbers of classes and slots, classes of arrays by kind -/
abbrev GP : Type := Nat × (Int → Nat) × va_G × (Int → ClassId)
def zA (g : GP) : Nat → Prop := fun q => g.1 ≤ q
def z_tys (g : GP) : List (ClassId × FieldType) := [(g.2.2.2 20, .byte), (g.2.2.2 21, .int), (g.2.2.2 22, .long), (g.2.2.2 23, .boolean), (g.2.2.2 24, .array .int)]
def z_E (g : GP) (h : Hp) (k : Int) : va_E :=
  if kK k < 20 then .inr ((kK k).toNat, (List.range (kF (kK k))).map (fun j => z_val g.2.1 (kT (kK k) j, h k j)))
  else if kK k = 22 then .inl (g.2.2.2 22, (kL k).toNat, .inr (.inl (fun j => i64 (h k j))))
  else if kK k = 24 then .inl (g.2.2.2 24, (kL k).toNat, .inr (.inr (.inr (.inr (fun j => if h k j = -1 then none else some (g.2.1 (h k j)))))))
  else .inl (g.2.2.2 (kK k), (kL k).toNat, .inl (fun j => i32 (h k j)))
def z_W (g : GP) (n : Nat) (h : Hp) : va_W := (List.range n).map (fun k : Nat => (g.2.1 (k : Int), z_E g h (k : Int)))
theorem z_W_at (g : GP) {n : Nat} (h : Hp) {k : Nat} (hk : k < n) : (z_W g n h)[k]? = some (g.2.1 k, z_E g h k) := by
  simp [z_W, hk]
theorem z_W_set (g : GP) {n : Nat} (h h' : Hp) {k : Nat} (hk : k < n) (e : va_E) (h1 : z_E g h' k = e) (h2 : ∀ j : Nat, j ≠ k → z_E g h' j = z_E g h j) : (z_W g n h).set k (g.2.1 k, e) = z_W g n h' := by
  apply List.ext_getElem?
  intro i
  by_cases hi : i = k
  · subst hi
    rw [List.getElem?_set_self (by simpa [z_W] using hk), z_W_at g h' hk, h1]
  · rw [List.getElem?_set_ne (Ne.symm hi)]
    by_cases hn : i < n
    · rw [z_W_at g h hn, z_W_at g h' hn, h2 i hi]
    · simp [z_W, hn]
theorem z_W_push (g : GP) {n : Nat} (h h' : Hp) (e : va_E) (h1 : z_E g h' n = e) (h2 : ∀ j : Nat, j < n → z_E g h' j = z_E g h j) : z_W g n h ++ [(g.2.1 n, e)] = z_W g (n + 1) h' := by
  unfold z_W
  rw [List.range_succ, List.map_append, List.map_cons, List.map_nil, h1]
  congr 1
  apply List.map_congr_left
  intro a ha
  rw [h2 a (List.mem_range.mp ha)]
theorem z_E_ne {g : GP} {h : Hp} {o k v : Int} {a : Int} (e : a ≠ o) : z_E g (hput h o k v) a = z_E g h a := by
  have h1 : ∀ b, hput h o k v a b = h a b := fun b => hput_ne1 e
  unfold z_E
  simp only [h1]
/-- every number of the heap is in its range -/
def z_R (h : Hp) : Prop := ∀ k j : Int, z_ok (kS k j, h k j)
theorem z_R_put {h : Hp} {o k v : Int} (H : z_R h) (hv : z_ok (kS o k, v)) : z_R (hput h o k v) := by
  intro a b
  by_cases e : a = o ∧ b = k
  · obtain ⟨rfl, rfl⟩ := e
    rw [hput_eq]; exact hv
  · have : hput h o k v a b = h a b := by unfold hput; rw [if_neg e]
    rw [this]; exact H a b
def z_P (g : GP) (n : Nat) (h : Hp) (H : Heap) : Prop := va_P g.2.2.1 vwCl (z_W g n h) H ∧ va_D (zA g) (z_W g n h)
