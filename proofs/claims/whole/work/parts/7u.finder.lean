/-! the class: the finder's stack -/
def cvr (i j p q : Int) : Int := 4096 * i + 256 * j + 16 * p + q
theorem shl_tab : ∀ x : Fin 16, i_shl ((x.val : Nat) : Int) 12 = 4096 * ((x.val : Nat) : Int) ∧ i_shl ((x.val : Nat) : Int) 8 = 256 * ((x.val : Nat) : Int) ∧ i_shl ((x.val : Nat) : Int) 4 = 16 * ((x.val : Nat) : Int) := by decide +kernel
theorem shl_in {x : Int} (h0 : 0 ≤ x) (h1 : x < 16) : i_shl x 12 = 4096 * x ∧ i_shl x 8 = 256 * x ∧ i_shl x 4 = 16 * x := by
  have := shl_tab ⟨x.toNat, by omega⟩
  simp only at this
  rw [show ((x.toNat : Nat) : Int) = x by omega] at this
  exact this
theorem or_add {a b : Int} {k : Nat} (a0 : 0 ≤ a) (a1 : a < 2147483648) (b0 : 0 ≤ b) (b1 : b < 2147483648) (c : Nat) (ha : a.toNat = 2 ^ k * c) (hb : b.toNat < 2 ^ k) : i_or a b = a + b := by
  rw [i_or_n a0 a1 b0 b1, ha, ← Nat.two_pow_add_eq_or_of_lt hb, ← ha]
  omega
theorem cover_ok {i j p q : Int} (i0 : 0 ≤ i) (i1 : i < 16) (j0 : 0 ≤ j) (j1 : j < 16) (p0 : 0 ≤ p) (p1 : p < 16) (q0 : 0 ≤ q) (q1 : q < 16) : WF_cover i j p q = some (cvr i j p q) := by
  unfold WF_cover
  rw [(shl_in i0 i1).1, (shl_in j0 j1).2.1, (shl_in p0 p1).2.2]
  rw [or_add (a := 4096 * i) (b := 256 * j) (k := 12) (by omega) (by omega) (by omega) (by omega) i.toNat (by omega) (by omega)]
  rw [or_add (a := 4096 * i + 256 * j) (b := 16 * p) (k := 8) (by omega) (by omega) (by omega) (by omega) (16 * i + j).toNat (by omega) (by omega)]
  rw [or_add (a := 4096 * i + 256 * j + 16 * p) (b := q) (k := 4) (by omega) (by omega) (by omega) (by omega) (256 * i + 16 * j + p).toNat (by omega) (by omega)]
  rfl
theorem and_mod {x : Int} {k : Nat} (x0 : 0 ≤ x) (x1 : x < 2147483648) (y : Int) (hy : y = ((2 ^ k - 1 : Nat) : Int)) (y1 : y < 2147483648) : i_and x y = x % ((2 ^ k : Nat) : Int) := by
  have y0 : 0 ≤ y := by omega
  rw [i_and_n x0 x1 y0 y1, hy, Int.toNat_natCast, Nat.and_two_pow_sub_one_eq_mod]
  rw [Int.natCast_emod, show ((x.toNat : Nat) : Int) = x by omega]
theorem shr_div {x t : Int} (x0 : 0 ≤ x) (x1 : x < 2147483648) (t0 : 0 ≤ t) (t1 : t < 32) : i_shr x t = x / ((2 ^ t.toNat : Nat) : Int) := by
  rw [i_shr_n x0 x1 t0 t1, Nat.shiftRight_eq_div_pow, Int.natCast_ediv, show ((x.toNat : Nat) : Int) = x by omega]
theorem uncover {i j p q : Int} (i0 : 0 ≤ i) (i1 : i < 16) (j0 : 0 ≤ j) (j1 : j < 16) (p0 : 0 ≤ p) (p1 : p < 16) (q0 : 0 ≤ q) (q1 : q < 16) : i_and (i_shr (cvr i j p q) 12) 15 = i ∧ i_and (i_shr (cvr i j p q) 8) 15 = j ∧ i_and (i_shr (cvr i j p q) 4) 15 = p ∧ i_and (cvr i j p q) 15 = q := by
  have c0 : 0 ≤ cvr i j p q ∧ cvr i j p q < 65536 := by unfold cvr; omega
  have e1 := shr_div (x := cvr i j p q) (t := 12) c0.1 (by omega) (by decide) (by decide)
  have e2 := shr_div (x := cvr i j p q) (t := 8) c0.1 (by omega) (by decide) (by decide)
  have e3 := shr_div (x := cvr i j p q) (t := 4) c0.1 (by omega) (by decide) (by decide)
  rw [show ((2 ^ (12 : Int).toNat : Nat) : Int) = 4096 by decide] at e1
  rw [show ((2 ^ (8 : Int).toNat : Nat) : Int) = 256 by decide] at e2
  rw [show ((2 ^ (4 : Int).toNat : Nat) : Int) = 16 by decide] at e3
  have m : ∀ x : Int, 0 ≤ x → x < 65536 → i_and x 15 = x % 16 := fun x a b => and_mod (k := 4) a (by omega) 15 (by decide) (by decide)
  unfold cvr at e1 e2 e3 c0 ⊢
  rw [e1, e2, e3, m _ (by omega) (by omega), m _ (by omega) (by omega), m _ (by omega) (by omega), m _ (by omega) (by omega)]
  omega
def Stk (h : Hp) : List (Int × Int × Int) → Prop
  | [] => True
  | x :: r => h 56 r.length = x.1 ∧ h 57 r.length = x.2.1 ∧ h 58 r.length = x.2.2 ∧ Stk h r
theorem Stk_eq {h h' : Hp} : ∀ (r : List (Int × Int × Int)), (∀ i, i < (r.length : Int) → h' 56 i = h 56 i ∧ h' 57 i = h 57 i ∧ h' 58 i = h 58 i) → Stk h r → Stk h' r
  | [], _, _ => trivial
  | x :: r, e, S => by
    have l : (((x :: r).length : Nat) : Int) = r.length + 1 := by show ((r.length + 1 : Nat) : Int) = _; omega
    have := e r.length (by omega)
    exact ⟨by rw [this.1]; exact S.1, by rw [this.2.1]; exact S.2.1, by rw [this.2.2]; exact S.2.2.1, Stk_eq r (fun i hi => e i (by omega)) S.2.2.2⟩
def Fin3 (h : Hp) (r : List (Int × Int × Int)) : Prop := h 55 3 = (r.length : Int) ∧ Stk h r
def FShp (h : Hp) (P : Int) : Prop := h 55 0 = 21 ∧ h 55 1 = P ∧ h 55 2 = 59 ∧ h 55 4 = 56 ∧ h 55 5 = 57 ∧ h 55 6 = 58
def wpu4 (f : Hp) : Option Hp := some (hput f 55 3 (w32 (f 55 3 + 1)))
def wpu3 (r : Int) (f : Hp) : Option Hp := if kK (f 55 6) = 22 ∧ (0 : Int) ≤ f 55 3 ∧ f 55 3 < kL (f 55 6) then wpu4 (hput f (f 55 6) (f 55 3) r) else none
def wpu2 (c r : Int) (f : Hp) : Option Hp := if kK (f 55 5) = 21 ∧ (0 : Int) ≤ f 55 3 ∧ f 55 3 < kL (f 55 5) then wpu3 r (hput f (f 55 5) (f 55 3) c) else none
theorem push_eq (s n half c r : Int) (h : Hp) : WF_push 55 s n half c r h = if kK 55 = 9 then if 1024 ≤ h 55 3 then some h else if kK (h 55 4) = 21 ∧ (0 : Int) ≤ h 55 3 ∧ h 55 3 < kL (h 55 4) then wpu2 c r (hput h (h 55 4) (h 55 3) (w32 ((w32 (2 * (w32 ((w32 (s * 12)) + n)))) + half))) else none else none := rfl
section
variable {h h' : Hp} {P : Int} {ts : List (Int × Int × Int)}
theorem push_ok (S : FShp h P) (F : Fin3 h ts) (hl : ts.length < 1024) {s n half c r : Int} (s0 : 0 ≤ s) (s1 : s < 48) (n0 : 0 ≤ n) (n1 : n < 12) (hh : half = 0 ∨ half = 1) : ∃ h', WF_push 55 s n half c r h = some h' ∧ Fin3 h' ((2 * (12 * s + n) + half, c, r) :: ts) ∧ ∀ a i, (a ≠ 55 ∨ i ≠ 3) → a ≠ 56 → a ≠ 57 → a ≠ 58 → h' a i = h a i := by
  obtain ⟨-, -, -, s4, s5, s6⟩ := S
  have c5 : ∀ (f : Hp) (a i v k : Int), a ≠ 55 → hput f a i v 55 k = f 55 k := fun f a i v k ha => hput_ne1 (fun z => ha z.symm)
  have ew : w32 ((w32 (2 * (w32 ((w32 (s * 12)) + n)))) + half) = 2 * (12 * s + n) + half := by
    have a1 : w32 (s * 12) = 12 * s := by unfold w32; omega
    have a2 : w32 (12 * s + n) = 12 * s + n := by unfold w32; omega
    have a3 : w32 (2 * (12 * s + n)) = 2 * (12 * s + n) := by unfold w32; omega
    rw [a1, a2, a3]
    unfold w32; omega
  have y : ∀ c k, (c = 56 ∨ c = 57) → k = kL c → (kK c = 21 ∧ (0 : Int) ≤ ts.length ∧ (ts.length : Int) < k) := by
    rintro c k (rfl | rfl) rfl
    · exact ⟨kK_56, by omega, by rw [kL_56]; omega⟩
    · exact ⟨kK_57, by omega, by rw [kL_57]; omega⟩
  have y8 : kK 58 = 22 ∧ (0 : Int) ≤ ts.length ∧ (ts.length : Int) < kL 58 := ⟨kK_58, by omega, by rw [kL_58]; omega⟩
  rw [push_eq, if_pos kK_55, F.1, if_neg (by omega), s4, if_pos (y 56 _ (Or.inl rfl) rfl), ew]
  unfold wpu2
  rw [c5 _ _ _ _ _ (by decide), c5 _ _ _ _ _ (by decide), s5, F.1, if_pos (y 57 _ (Or.inr rfl) rfl)]
  unfold wpu3
  rw [c5 _ _ _ _ _ (by decide), c5 _ _ _ _ _ (by decide), c5 _ _ _ _ _ (by decide), c5 _ _ _ _ _ (by decide), s6, F.1, if_pos y8]
  unfold wpu4
  rw [c5 _ _ _ _ _ (by decide), c5 _ _ _ _ _ (by decide), c5 _ _ _ _ _ (by decide), F.1, show w32 ((ts.length : Int) + 1) = ts.length + 1 by unfold w32; omega]
  refine ⟨_, rfl, ⟨?_, ?_, ?_, ?_, ?_⟩, ?_⟩
  · rw [hput_eq]; show _ = ((ts.length + 1 : Nat) : Int); omega
  · rw [hput_ne1 (by decide), hput_ne1 (by decide), hput_ne1 (by decide), hput_eq]
  · rw [hput_ne1 (by decide), hput_ne1 (by decide), hput_eq]
  · rw [hput_ne1 (by decide), hput_eq]
  · refine Stk_eq ts (fun i hi => ⟨?_, ?_, ?_⟩) F.2
    · rw [hput_ne1 (by decide), hput_ne2 (by omega), hput_ne2 (by omega), hput_ne2 (by omega)]
    · rw [hput_ne1 (by decide), hput_ne2 (by omega), hput_ne2 (by omega), hput_ne2 (by omega)]
    · rw [hput_ne1 (by decide), hput_ne2 (by omega), hput_ne2 (by omega), hput_ne2 (by omega)]
  · intro a i h1 h2 h3 h4
    rcases h1 with z | z
    · rw [hput_ne1 z, hput_ne1 h4, hput_ne1 h3, hput_ne1 h2]
    · rw [hput_ne2 z, hput_ne1 h4, hput_ne1 h3, hput_ne1 h2]
def wpo1 (f : Hp) : Hp := hput (hput (hput (hput (hput (hput (hput f 55 9 (f (f 55 6) (f 55 3))) 55 7 (w32 (Int.tdiv (i_shr (f (f 55 4) (f 55 3)) 1) 12))) 55 8 (w32 (Int.tmod (i_shr (f (f 55 4) (f 55 3)) 1) 12))) 55 10 (i_and (i_shr (f (f 55 5) (f 55 3)) 12) 15)) 55 11 (i_and (i_shr (f (f 55 5) (f 55 3)) 8) 15)) 55 12 (i_and (i_shr (f (f 55 5) (f 55 3)) 4) 15)) 55 13 (i_and (f (f 55 5) (f 55 3)) 15)
def wpo0 (f : Hp) : Option (Int × Hp) := if kK (f 55 4) = 21 ∧ (0 : Int) ≤ f 55 3 ∧ f 55 3 < kL (f 55 4) then if kK (f 55 5) = 21 ∧ (0 : Int) ≤ f 55 3 ∧ f 55 3 < kL (f 55 5) then if kK (f 55 6) = 22 ∧ (0 : Int) ≤ f 55 3 ∧ f 55 3 < kL (f 55 6) then some (i_and (f (f 55 4) (f 55 3)) 1, wpo1 f) else none else none else none
theorem pop_eq (h : Hp) : WF_pop 55 h = if kK 55 = 9 then wpo0 (hput h 55 3 (w32 (h 55 3 - 1))) else none := rfl
theorem pop_ok (S : FShp h P) {s n half i j p q r : Int} (F : Fin3 h ((2 * (12 * s + n) + half, cvr i j p q, r) :: ts)) (hl : ts.length < 1024) (s0 : 0 ≤ s) (s1 : s < 48) (n0 : 0 ≤ n) (n1 : n < 12) (hh : half = 0 ∨ half = 1) (i0 : 0 ≤ i) (i1 : i < 16) (j0 : 0 ≤ j) (j1 : j < 16) (p0 : 0 ≤ p) (p1 : p < 16) (q0 : 0 ≤ q) (q1 : q < 16) :
    ∃ h', WF_pop 55 h = some (half, h') ∧ Fin3 h' ts ∧ (h' 55 7 = s ∧ h' 55 8 = n ∧ h' 55 9 = r ∧ h' 55 10 = i ∧ h' 55 11 = j ∧ h' 55 12 = p ∧ h' 55 13 = q) ∧ ∀ a x, (a ≠ 55 ∨ (x ≠ 3 ∧ x < 7)) → h' a x = h a x := by
  obtain ⟨-, -, -, s4, s5, s6⟩ := S
  obtain ⟨F1, F2, F3, F4, F5'⟩ := F
  have F1' : h 55 3 = (ts.length : Int) + 1 := by rw [F1]; show ((ts.length + 1 : Nat) : Int) = _; omega
  have u := uncover i0 i1 j0 j1 p0 p1 q0 q1
  rw [pop_eq, if_pos kK_55, F1', show w32 ((ts.length : Int) + 1 - 1) = ts.length by unfold w32; omega]
  generalize hf : hput h 55 3 (ts.length : Int) = f
  have f3 : f 55 3 = ts.length := by rw [← hf, hput_eq]
  have fo : ∀ a x, (a ≠ 55 ∨ x ≠ 3) → f a x = h a x := fun a x z => by
    rw [← hf]
    rcases z with z | z
    · exact hput_ne1 z
    · exact hput_ne2 z
  have f4 : f 55 4 = 56 := by rw [fo 55 4 (Or.inr (by decide)), s4]
  have f5 : f 55 5 = 57 := by rw [fo 55 5 (Or.inr (by decide)), s5]
  have f6 : f 55 6 = 58 := by rw [fo 55 6 (Or.inr (by decide)), s6]
  have e1 : f 56 ts.length = 2 * (12 * s + n) + half := by rw [fo 56 _ (Or.inl (by decide))]; exact F2
  have e2 : f 57 ts.length = cvr i j p q := by rw [fo 57 _ (Or.inl (by decide))]; exact F3
  have e3 : f 58 ts.length = r := by rw [fo 58 _ (Or.inl (by decide))]; exact F4
  have m1 : i_and (2 * (12 * s + n) + half) 1 = half := by
    rw [and_mod (k := 1) (by omega) (by omega) 1 (by decide) (by decide)]
    show (2 * (12 * s + n) + half) % 2 = half
    omega
  have m2 : i_shr (2 * (12 * s + n) + half) 1 = 12 * s + n := by
    rw [shr_div (by omega) (by omega) (by decide) (by decide)]
    show (2 * (12 * s + n) + half) / 2 = _
    omega
  have m3 : w32 (Int.tdiv (12 * s + n) 12) = s := by
    rw [Int.tdiv_eq_ediv_of_nonneg (by omega)]
    unfold w32; omega
  have m4 : w32 (Int.tmod (12 * s + n) 12) = n := by
    rw [Int.tmod_eq_emod_of_nonneg (by omega)]
    unfold w32; omega
  unfold wpo0
  rw [f4, f3, f5, f6, if_pos ⟨kK_56, by omega, by rw [kL_56]; omega⟩, if_pos (show kK 57 = 21 ∧ (0 : Int) ≤ ts.length ∧ (ts.length : Int) < kL 57 from ⟨kK_57, by omega, by rw [kL_57]; omega⟩), if_pos (show kK 58 = 22 ∧ (0 : Int) ≤ ts.length ∧ (ts.length : Int) < kL 58 from ⟨kK_58, by omega, by rw [kL_58]; omega⟩), e1, m1]
  have o : ∀ a x, (a ≠ 55 ∨ x < 7) → wpo1 f a x = f a x := by
    intro a x z
    unfold wpo1
    rcases z with z | z
    · rw [hput_ne1 z, hput_ne1 z, hput_ne1 z, hput_ne1 z, hput_ne1 z, hput_ne1 z, hput_ne1 z]
    · rw [hput_ne2 (by omega), hput_ne2 (by omega), hput_ne2 (by omega), hput_ne2 (by omega), hput_ne2 (by omega), hput_ne2 (by omega), hput_ne2 (by omega)]
  refine ⟨_, rfl, ⟨by rw [o 55 3 (Or.inr (by decide))]; exact f3, ?_⟩, ?_, ?_⟩
  · refine Stk_eq ts (fun x hx => ?_) F5'
    rw [o 56 x (Or.inl (by decide)), o 57 x (Or.inl (by decide)), o 58 x (Or.inl (by decide)), fo 56 x (Or.inl (by decide)), fo 57 x (Or.inl (by decide)), fo 58 x (Or.inl (by decide))]
    exact ⟨rfl, rfl, rfl⟩
  · unfold wpo1
    rw [f4, f5, f6, f3, e1, e2, e3, m2, m3, m4, u.1, u.2.1, u.2.2.1, u.2.2.2]
    refine ⟨?_, ?_, ?_, ?_, ?_, ?_, ?_⟩
    · rw [hput_ne2 (by decide), hput_ne2 (by decide), hput_ne2 (by decide), hput_ne2 (by decide), hput_ne2 (by decide), hput_eq]
    · rw [hput_ne2 (by decide), hput_ne2 (by decide), hput_ne2 (by decide), hput_ne2 (by decide), hput_eq]
    · rw [hput_ne2 (by decide), hput_ne2 (by decide), hput_ne2 (by decide), hput_ne2 (by decide), hput_ne2 (by decide), hput_ne2 (by decide), hput_eq]
    · rw [hput_ne2 (by decide), hput_ne2 (by decide), hput_ne2 (by decide), hput_eq]
    · rw [hput_ne2 (by decide), hput_ne2 (by decide), hput_eq]
    · rw [hput_ne2 (by decide), hput_eq]
    · rw [hput_eq]
  · intro a x z
    rw [o a x (z.elim Or.inl (fun w => Or.inr w.2)), fo a x (z.elim Or.inl (fun w => Or.inr w.1))]
end
