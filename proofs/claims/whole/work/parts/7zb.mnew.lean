/-! the reference is made -/
def apW : List (Int ⊕ (Int × Int × Int)) → Hp → Hp
  | [], g => g
  | .inl a :: ws, g => apW ws (hnew g a)
  | .inr (a, b, v) :: ws, g => apW ws (hput g a b v)
def wC : Int ⊕ (Int × Int × Int) → Int
  | .inl a => a
  | .inr (a, _, _) => a
theorem apW_no {c s : Int} : ∀ (ws : List (Int ⊕ (Int × Int × Int))) (g : Hp), (∀ w ∈ ws, wC w ≠ c) → apW ws g c s = g c s
  | [], _, _ => rfl
  | .inl a :: ws, g, h => by
    show apW ws (hnew g a) c s = g c s
    rw [apW_no ws _ (fun w hw => h w (List.mem_cons_of_mem _ hw))]
    have : a ≠ c := h (.inl a) List.mem_cons_self
    unfold hnew
    rw [if_neg (fun z => this z.symm)]
  | .inr (a, b, v) :: ws, g, h => by
    show apW ws (hput g a b v) c s = g c s
    rw [apW_no ws _ (fun w hw => h w (List.mem_cons_of_mem _ hw))]
    have : a ≠ c := h (.inr (a, b, v)) List.mem_cons_self
    exact hput_ne1 (fun z => this z.symm)
def wsM : List (Int ⊕ (Int × Int × Int)) := [.inl 122, .inr (121, 4, 122), .inl 123, .inr (121, 5, 123), .inl 124, .inr (121, 6, 124), .inl 125, .inr (121, 7, 125), .inl 126, .inr (121, 8, 126), .inl 127, .inr (121, 9, 127), .inl 128, .inr (121, 10, 128), .inl 129, .inr (121, 13, 129), .inl 130, .inr (121, 14, 130), .inl 131, .inr (121, 15, 131), .inl 132, .inr (121, 16, 132), .inl 133, .inr (121, 17, 133), .inl 134, .inr (121, 18, 134), .inl 135, .inr (121, 19, 135), .inl 136, .inr (121, 21, 136), .inr (121, 28, -1), .inl 137, .inr (121, 31, 137), .inl 138, .inr (121, 33, 138), .inl 139, .inr (121, 36, 139), .inl 140, .inr (121, 37, 140), .inl 141, .inr (121, 38, 141), .inl 142, .inr (121, 39, 142), .inl 143, .inr (121, 40, 143), .inl 144, .inr (121, 41, 144), .inl 145, .inr (121, 42, 145), .inl 146, .inr (121, 43, 146), .inl 147, .inr (121, 44, 147), .inl 148, .inr (121, 49, 148), .inl 149, .inr (121, 50, 149), .inl 150, .inr (121, 51, 150), .inl 151, .inr (121, 52, 151), .inl 152, .inr (121, 53, 152), .inl 153, .inr (121, 54, 153), .inl 154, .inr (121, 55, 154), .inl 155, .inr (121, 56, 155), .inl 156, .inr (121, 59, 156)]
theorem wsM_ge : ∀ w ∈ wsM, 121 ≤ wC w := by decide
theorem M_new_eq (g : Hp) : M_new 121 122 g = M_new_t 121 (apW wsM g) := by rfl
theorem wsM_ms (g : Hp) : ∀ q ∈ msL, apW wsM g 121 q.1 = q.2 := List.forall_mem_cons.mpr ⟨rfl, List.forall_mem_cons.mpr ⟨rfl, List.forall_mem_cons.mpr ⟨rfl, List.forall_mem_cons.mpr ⟨rfl, List.forall_mem_cons.mpr ⟨rfl, List.forall_mem_cons.mpr ⟨rfl, List.forall_mem_cons.mpr ⟨rfl, List.forall_mem_cons.mpr ⟨rfl, List.forall_mem_cons.mpr ⟨rfl, List.forall_mem_cons.mpr ⟨rfl, List.forall_mem_cons.mpr ⟨rfl, List.forall_mem_cons.mpr ⟨rfl, List.forall_mem_cons.mpr ⟨rfl, List.forall_mem_cons.mpr ⟨rfl, List.forall_mem_cons.mpr ⟨rfl, List.forall_mem_cons.mpr ⟨rfl, List.forall_mem_cons.mpr ⟨rfl, List.forall_mem_cons.mpr ⟨rfl, List.forall_mem_cons.mpr ⟨rfl, List.forall_mem_cons.mpr ⟨rfl, List.forall_mem_cons.mpr ⟨rfl, List.forall_mem_cons.mpr ⟨rfl, List.forall_mem_cons.mpr ⟨rfl, List.forall_mem_cons.mpr ⟨rfl, List.forall_mem_cons.mpr ⟨rfl, List.forall_mem_cons.mpr ⟨rfl, fun _ hq => absurd hq List.not_mem_nil⟩⟩⟩⟩⟩⟩⟩⟩⟩⟩⟩⟩⟩⟩⟩⟩⟩⟩⟩⟩⟩⟩⟩⟩⟩⟩
theorem wsM_ss (g : Hp) : ∀ q ∈ ssL, apW wsM g 121 q.1 = q.2 := List.forall_mem_cons.mpr ⟨rfl, List.forall_mem_cons.mpr ⟨rfl, List.forall_mem_cons.mpr ⟨rfl, List.forall_mem_cons.mpr ⟨rfl, List.forall_mem_cons.mpr ⟨rfl, List.forall_mem_cons.mpr ⟨rfl, List.forall_mem_cons.mpr ⟨rfl, fun _ hq => absurd hq List.not_mem_nil⟩⟩⟩⟩⟩⟩⟩
theorem wsM_at (g : Hp) : apW wsM g 121 56 = 155 ∧ apW wsM g 121 59 = 156 ∧ apW wsM g 121 28 = -1 ∧ apW wsM g 121 1 = g 121 1 ∧ apW wsM g 121 2 = g 121 2 ∧ apW wsM g 121 3 = g 121 3 ∧ apW wsM g 121 20 = g 121 20 ∧ apW wsM g 121 27 = g 121 27 ∧ apW wsM g 121 32 = g 121 32 ∧ apW wsM g 121 57 = g 121 57 ∧ apW wsM g 122 0 = 0 := ⟨rfl, rfl, rfl, rfl, rfl, rfl, rfl, rfl, rfl, rfl, rfl⟩
