/-! grammar: a node is added by the class -/
def nwH (h : Hp) (Q T N k l up : Int) : Hp := hput (hput (hput (hput (hput (hput (hput (hput (hput (hput (hput h Q 1 (N + 1)) (Q + 1) T (N + 1)) (Q + 2) N (T - 1)) (Q + 3) N k) (Q + 4) N l) (Q + 5) N 0) (Q + 6) N (-1)) (Q + 7) N (-1)) (Q + 8) N up) (Q + 9) N 0) (Q + 10) N 0
def lkH (f : Hp) (Q up N : Int) : Hp := if up = -1 then f else if f (Q + 6) up = -1 then hput f (Q + 6) up N else hput f (Q + 7) up N
def anK (Q l3 N : Int) (f : Hp) : Option (Int × Hp) := if l3 = (-1) then Gr_addNode_j132 Q l3 N f else if kK (f Q 11) = 21 ∧ (0 : Int) ≤ l3 ∧ l3 < kL (f Q 11) then if f (f Q 11) l3 = (-1) then some (N, hput f (f Q 11) l3 N) else Gr_addNode_j132 Q l3 N f else none
def an10 (Q l3 N : Int) (f : Hp) : Option (Int × Hp) := if kK (f Q 15) = 23 ∧ (0 : Int) ≤ N ∧ N < kL (f Q 15) then anK Q l3 N (hput f (f Q 15) N 0) else none
def an9 (Q l3 N : Int) (f : Hp) : Option (Int × Hp) := if kK (f Q 14) = 21 ∧ (0 : Int) ≤ N ∧ N < kL (f Q 14) then an10 Q l3 N (hput f (f Q 14) N 0) else none
def an8 (Q l3 N : Int) (f : Hp) : Option (Int × Hp) := if kK (f Q 13) = 21 ∧ (0 : Int) ≤ N ∧ N < kL (f Q 13) then an9 Q l3 N (hput f (f Q 13) N l3) else none
def an7 (Q l3 N : Int) (f : Hp) : Option (Int × Hp) := if kK (f Q 12) = 21 ∧ (0 : Int) ≤ N ∧ N < kL (f Q 12) then an8 Q l3 N (hput f (f Q 12) N (-1)) else none
def an6 (Q l3 N : Int) (f : Hp) : Option (Int × Hp) := if kK (f Q 11) = 21 ∧ (0 : Int) ≤ N ∧ N < kL (f Q 11) then an7 Q l3 N (hput f (f Q 11) N (-1)) else none
def an5 (Q l3 N : Int) (f : Hp) : Option (Int × Hp) := if kK (f Q 10) = 21 ∧ (0 : Int) ≤ N ∧ N < kL (f Q 10) then an6 Q l3 N (hput f (f Q 10) N 0) else none
def an4 (Q l2 l3 N : Int) (f : Hp) : Option (Int × Hp) := if kK (f Q 9) = 21 ∧ (0 : Int) ≤ N ∧ N < kL (f Q 9) then an5 Q l3 N (hput f (f Q 9) N l2) else none
def an3 (Q l1 l2 l3 N : Int) (f : Hp) : Option (Int × Hp) := if kK (f Q 8) = 21 ∧ (0 : Int) ≤ N ∧ N < kL (f Q 8) then an4 Q l2 l3 N (hput f (f Q 8) N l1) else none
def an2 (Q l1 l2 l3 N : Int) (f : Hp) : Option (Int × Hp) := if kK (f Q 7) = 21 ∧ (0 : Int) ≤ N ∧ N < kL (f Q 7) then an3 Q l1 l2 l3 N (hput f (f Q 7) N (w32 ((f Q 0) - 1))) else none
def an1 (Q l1 l2 l3 N : Int) (f : Hp) : Option (Int × Hp) := if kK (f Q 6) = 21 ∧ (0 : Int) ≤ f Q 0 ∧ f Q 0 < kL (f Q 6) then an2 Q l1 l2 l3 N (hput f (f Q 6) (f Q 0) (f Q 1)) else none
theorem addNode_eq (Q l1 l2 l3 : Int) (h : Hp) : Gr_addNode Q l1 l2 l3 h = if kK Q = 3 then an1 Q l1 l2 l3 (h Q 1) (hput h Q 1 (w32 ((h Q 1) + 1))) else none := rfl
section
variable {h : Hp} {Q T N k l up : Int}
theorem GShp_put {f : Hp} {j i v : Int} (j1 : 1 ≤ j) (G : GShp f Q) : GShp (hput f (Q + j) i v) Q := by
  have e : ∀ s, hput f (Q + j) i v Q s = f Q s := fun s => hput_ne1 (by omega)
  unfold GShp at G ⊢
  simp only [e]
  exact G
theorem GShp_1 {f : Hp} {v : Int} (G : GShp f Q) : GShp (hput f Q 1 v) Q := by
  have e : ∀ s, s ≠ 1 → hput f Q 1 v Q s = f Q s := fun s hs => hput_ne2 hs
  unfold GShp at G ⊢
  rw [e 6 (by decide), e 7 (by decide), e 8 (by decide), e 9 (by decide), e 10 (by decide), e 11 (by decide), e 12 (by decide), e 13 (by decide), e 14 (by decide), e 15 (by decide), e 16 (by decide), e 17 (by decide), e 18 (by decide)]
  exact G
theorem addNode_ok (O : GrO Q) (G : GShp h Q) (e0 : h Q 0 = T) (e1 : h Q 1 = N) (T0 : 0 ≤ T) (T1 : T ≤ 8) (N0 : 0 ≤ N) (N1 : N < 40) (hu : up = -1 ∨ (0 ≤ up ∧ up < N)) : Gr_addNode Q k l up h = some (N, lkH (nwH h Q T N k l up) Q up N) := by
  obtain ⟨g0, g1, g2, g3, g4, g5, g6, g7, g8, g9, g10, g11, g12, g13⟩ := GrO_k O
  have wN : w32 (N + 1) = N + 1 := by unfold w32; omega
  have wT : w32 (T - 1) = T - 1 := by unfold w32; omega
  rw [addNode_eq, if_pos g0, e1, wN]
  have G1 := GShp_1 (v := N + 1) G
  have q0 : (hput h Q 1 (N + 1)) Q 0 = T := by rw [hput_ne2 (by decide)]; exact e0
  have q1 : (hput h Q 1 (N + 1)) Q 1 = N + 1 := hput_eq ..
  unfold an1
  rw [G1.1, q0, q1, if_pos ⟨g1.1, T0, by rw [g1.2]; omega⟩]
  have G2 := GShp_put (j := 1) (i := T) (v := N + 1) (by decide) G1
  have q0' : (hput (hput h Q 1 (N + 1)) (Q + 1) T (N + 1)) Q 0 = T := by rw [hput_ne1 (by omega)]; exact q0
  unfold an2
  rw [G2.2.1, q0', wT, if_pos ⟨g2.1, N0, by rw [g2.2]; omega⟩]
  have G3 := GShp_put (j := 2) (i := N) (v := T - 1) (by decide) G2
  unfold an3
  rw [G3.2.2.1, if_pos ⟨g3.1, N0, by rw [g3.2]; omega⟩]
  have G4 := GShp_put (j := 3) (i := N) (v := k) (by decide) G3
  unfold an4
  rw [G4.2.2.2.1, if_pos ⟨g4.1, N0, by rw [g4.2]; omega⟩]
  have G5 := GShp_put (j := 4) (i := N) (v := l) (by decide) G4
  unfold an5
  rw [G5.2.2.2.2.1, if_pos ⟨g5.1, N0, by rw [g5.2]; omega⟩]
  have G6 := GShp_put (j := 5) (i := N) (v := 0) (by decide) G5
  unfold an6
  rw [G6.2.2.2.2.2.1, if_pos ⟨g6.1, N0, by rw [g6.2]; omega⟩]
  have G7 := GShp_put (j := 6) (i := N) (v := -1) (by decide) G6
  unfold an7
  rw [G7.2.2.2.2.2.2.1, if_pos ⟨g7.1, N0, by rw [g7.2]; omega⟩]
  have G8 := GShp_put (j := 7) (i := N) (v := -1) (by decide) G7
  unfold an8
  rw [G8.2.2.2.2.2.2.2.1, if_pos ⟨g8.1, N0, by rw [g8.2]; omega⟩]
  have G9 := GShp_put (j := 8) (i := N) (v := up) (by decide) G8
  unfold an9
  rw [G9.2.2.2.2.2.2.2.2.1, if_pos ⟨g9.1, N0, by rw [g9.2]; omega⟩]
  have G10 := GShp_put (j := 9) (i := N) (v := 0) (by decide) G9
  unfold an10
  rw [G10.2.2.2.2.2.2.2.2.2.1, if_pos ⟨g10.1, N0, by rw [g10.2]; omega⟩]
  have G11 := GShp_put (j := 10) (i := N) (v := 0) (by decide) G10
  show anK Q up N (nwH h Q T N k l up) = _
  have Gn : GShp (nwH h Q T N k l up) Q := G11
  generalize nwH h Q T N k l up = f at Gn
  unfold anK lkH Gr_addNode_j132
  by_cases hz : up = -1
  · rw [if_pos hz, if_pos hz, if_pos hz]
  · have u0 : 0 ≤ up ∧ up < N := hu.resolve_left hz
    rw [if_neg hz, if_neg hz, if_neg hz, Gn.2.2.2.2.2.1, if_pos (show kK (Q + 6) = 21 ∧ (0 : Int) ≤ up ∧ up < kL (Q + 6) from ⟨g6.1, u0.1, by rw [g6.2]; omega⟩)]
    by_cases h1 : f (Q + 6) up = -1
    · rw [if_pos h1, if_pos h1]
    · rw [if_neg h1, if_neg h1, if_pos g0, Gn.2.2.2.2.2.2.1, if_pos (show kK (Q + 7) = 21 ∧ (0 : Int) ≤ up ∧ up < kL (Q + 7) from ⟨g7.1, u0.1, by rw [g7.2]; omega⟩)]
end
