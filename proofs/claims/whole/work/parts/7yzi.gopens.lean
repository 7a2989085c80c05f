/-! grammar: the reference opens a node -/
def nwM (g : Hp) (N k l up : Int) : Hp := hput (hput (hput (hput (hput (hput (hput g 123 (40 + N) k) 124 (40 + N) l) 125 (40 + N) 0) 126 (40 + N) (-1)) 127 (40 + N) (-1)) 128 (40 + N) up) 121 12 (N + 1)
def op7 (N : Int) (f : Hp) : Option (Int × Hp) := some (w32 (40 + N), hput f 121 12 (w32 ((f 121 12) + 1)))
def op6 (N up : Int) (f : Hp) : Option (Int × Hp) := if kK (f 121 10) = 21 ∧ (0 : Int) ≤ w32 (40 + N) ∧ w32 (40 + N) < kL (f 121 10) then op7 N (hput f (f 121 10) (w32 (40 + N)) up) else none
def op5 (N up : Int) (f : Hp) : Option (Int × Hp) := if kK (f 121 9) = 21 ∧ (0 : Int) ≤ w32 (40 + N) ∧ w32 (40 + N) < kL (f 121 9) then op6 N up (hput f (f 121 9) (w32 (40 + N)) (-1)) else none
def op4 (N up : Int) (f : Hp) : Option (Int × Hp) := if kK (f 121 8) = 21 ∧ (0 : Int) ≤ w32 (40 + N) ∧ w32 (40 + N) < kL (f 121 8) then op5 N up (hput f (f 121 8) (w32 (40 + N)) (-1)) else none
def op3 (N up : Int) (f : Hp) : Option (Int × Hp) := if kK (f 121 7) = 21 ∧ (0 : Int) ≤ w32 (40 + N) ∧ w32 (40 + N) < kL (f 121 7) then op4 N up (hput f (f 121 7) (w32 (40 + N)) 0) else none
def op2 (N l up : Int) (f : Hp) : Option (Int × Hp) := if kK (f 121 6) = 21 ∧ (0 : Int) ≤ w32 (40 + N) ∧ w32 (40 + N) < kL (f 121 6) then op3 N up (hput f (f 121 6) (w32 (40 + N)) l) else none
def op1 (N k l up : Int) (f : Hp) : Option (Int × Hp) := if kK (f 121 5) = 21 ∧ (0 : Int) ≤ w32 (40 + N) ∧ w32 (40 + N) < kL (f 121 5) then op2 N l up (hput f (f 121 5) (w32 (40 + N)) k) else none
theorem opens_eq (k l up : Int) (g : Hp) : M_opens_j30 121 k l up g = if kK 121 = 11 then ob (M_good 121 g) (fun r => if r = 0 then some (40, g) else op1 (g 121 12) k l up g) else none := rfl
section
variable {g : Hp} {N : Int}
theorem opens_new (S : MShp g) (e12 : g 121 12 = N) (N0 : 0 ≤ N) (N1 : N < 40) (ok : g 121 27 = 0) (k l up : Int) : M_opens_j30 121 k l up g = some (40 + N, nwM g N k l up) := by
  have w0 : w32 (40 + N) = 40 + N := by unfold w32; omega
  have w1 : w32 (N + 1) = N + 1 := by unfold w32; omega
  have p : ∀ {f : Hp} {c v : Int} (i : Int), c ≠ 121 → (hput f c (40 + N) v) 121 i = f 121 i := fun i hc => hput_ne1 (fun z => hc z.symm)
  have s5 : g 121 5 = 123 := ms_at S (by decide)
  have s6 : g 121 6 = 124 := ms_at S (by decide)
  have s7 : g 121 7 = 125 := ms_at S (by decide)
  have s8 : g 121 8 = 126 := ms_at S (by decide)
  have s9 : g 121 9 = 127 := ms_at S (by decide)
  have s10 : g 121 10 = 128 := ms_at S (by decide)
  rw [opens_eq, if_pos kK_121, mg_good, ob_some, if_pos ok, if_neg (by decide), e12]
  unfold op1
  rw [s5, w0, if_pos ⟨by decide, by omega, by rw [show kL 123 = 80 by decide]; omega⟩]
  unfold op2
  rw [p 6 (by decide), s6, w0, if_pos ⟨by decide, by omega, by rw [show kL 124 = 80 by decide]; omega⟩]
  unfold op3
  rw [p 7 (by decide), p 7 (by decide), s7, w0, if_pos ⟨by decide, by omega, by rw [show kL 125 = 80 by decide]; omega⟩]
  unfold op4
  rw [p 8 (by decide), p 8 (by decide), p 8 (by decide), s8, w0, if_pos ⟨by decide, by omega, by rw [show kL 126 = 80 by decide]; omega⟩]
  unfold op5
  rw [p 9 (by decide), p 9 (by decide), p 9 (by decide), p 9 (by decide), s9, w0, if_pos ⟨by decide, by omega, by rw [show kL 127 = 80 by decide]; omega⟩]
  unfold op6
  rw [p 10 (by decide), p 10 (by decide), p 10 (by decide), p 10 (by decide), p 10 (by decide), s10, w0, if_pos ⟨by decide, by omega, by rw [show kL 128 = 80 by decide]; omega⟩]
  unfold op7
  rw [p 12 (by decide), p 12 (by decide), p 12 (by decide), p 12 (by decide), p 12 (by decide), p 12 (by decide), e12, w0, w1]
  rfl
end
