/-! both objects are made, and the law's loop comes to its end -/
def g00 : Hp := fun a j => dfl a j
def ptX : List (Int × Int × Int) := [(0, 15, 93), (0, 16, 107), (0, 17, 0), (5, 1, 0), (1, 1, 0), (3, 1, 0), (7, 0, 0), (7, 1, -1), (94, 0, 0), (93, 6, 94), (93, 7, 95), (93, 8, 96), (93, 9, 97), (93, 10, 98), (93, 11, 99), (93, 12, 100), (93, 13, 101), (93, 14, 102), (93, 15, 103), (93, 16, 104), (93, 17, 105), (93, 18, 106), (107, 6, 108), (107, 7, 109), (107, 8, 110), (107, 9, 111), (107, 10, 112), (107, 11, 113), (107, 12, 114), (107, 13, 115), (107, 14, 116), (107, 15, 117), (107, 16, 118), (107, 17, 119), (107, 18, 120), (93, 0, 0), (93, 1, 0), (93, 2, 0), (93, 3, 0), (93, 4, 0), (93, 5, 0), (105, 0, 0), (106, 0, 0), (105, 1, 0), (106, 1, 0), (105, 2, 0), (106, 2, 0), (105, 3, 0), (106, 3, 0), (105, 4, 0), (106, 4, 0), (105, 5, 0), (106, 5, 0), (105, 6, 0), (106, 6, 0), (105, 7, 0), (106, 7, 0), (105, 8, 0), (106, 8, 0), (105, 9, 0), (106, 9, 0), (105, 10, 0), (106, 10, 0), (105, 11, 0), (106, 11, 0), (105, 12, 0), (106, 12, 0), (105, 13, 0), (106, 13, 0), (105, 14, 0), (106, 14, 0), (105, 15, 0), (106, 15, 0), (105, 16, 0), (106, 16, 0), (105, 17, 0), (106, 17, 0), (105, 18, 0), (106, 18, 0), (105, 19, 0), (106, 19, 0), (105, 20, 0), (106, 20, 0), (105, 21, 0), (106, 21, 0), (105, 22, 0), (106, 22, 0), (105, 23, 0), (106, 23, 0), (105, 24, 0), (106, 24, 0), (105, 25, 0), (106, 25, 0)]
theorem X_new_chk : ((X_new 0 1 (hnew g00 0)).map (fun f => (shX ++ ptX).all (fun q => decide (f q.1 q.2.1 = q.2.2)))) = some true := by decide +kernel
theorem X_new_ok : ∃ h1, X_new 0 1 (hnew g00 0) = some h1 ∧ ∀ q ∈ shX ++ ptX, h1 q.1 q.2.1 = q.2.2 := by
  have c := X_new_chk
  cases e : X_new 0 1 (hnew g00 0) with
  | none => rw [e] at c; exact absurd c (by simp)
  | some f =>
    rw [e] at c
    have c : (shX ++ ptX).all (fun q => decide (f q.1 q.2.1 = q.2.2)) = true := by
      have c : some ((shX ++ ptX).all (fun q => decide (f q.1 q.2.1 = q.2.2))) = some true := c
      injection c
    exact ⟨f, rfl, fun q hq => of_decide_eq_true (List.all_eq_true.mp c q hq)⟩
def G00 : Gm := fun _ _ => 0
theorem G00_ok : GOK G00 (fun _ => .zero) := ⟨by decide, by decide, rfl, rfl, fun t t0 t1 => by
  have t1 : t < 0 := t1
  omega⟩
section
variable {h h1 : Hp}
theorem Xq_start (H : ∀ q ∈ shX ++ ptX, h1 q.1 q.2.1 = q.2.2) : IX h1 93 G00 0 0 (fun _ => 0) 0 (fun _ => 0) 0 (fun _ => 0) 0 (-1) := by
  have S : ShX h1 := fun q hq => H q (List.mem_append_left _ hq)
  have p : ∀ {a b c : Int}, (a, b, c) ∈ ptX → h1 a b = c := fun hk => H _ (List.mem_append_right _ hk)
  have m0 : ∀ l, 0 ≤ l → l < 26 → h1 105 l = 0 ∧ h1 106 l = 0 := by
    intro l l0 l1
    have : ∀ k : Fin 26, (105, ((k.val : Nat) : Int), 0) ∈ ptX ∧ (106, ((k.val : Nat) : Int), 0) ∈ ptX := by decide
    have q := this ⟨l.toNat, by omega⟩
    simp only at q
    rw [show ((l.toNat : Nat) : Int) = l by omega] at q
    exact ⟨p q.1, p q.2⟩
  have gs : ∀ P, P = 93 ∨ P = 107 → GShp h1 P := by
    intro P hP
    rcases hP with rfl | rfl
    · exact ⟨p (by decide), p (by decide), p (by decide), p (by decide), p (by decide), p (by decide), p (by decide), p (by decide), p (by decide), p (by decide), p (by decide), p (by decide), p (by decide)⟩
    · exact ⟨p (by decide), p (by decide), p (by decide), p (by decide), p (by decide), p (by decide), p (by decide), p (by decide), p (by decide), p (by decide), p (by decide), p (by decide), p (by decide)⟩
  have nT0 : nT G00 = 0 := rfl
  have nN0 : nN G00 = 0 := rfl
  have R : RepX h1 93 G00 := by
    refine ⟨Or.inr (Or.inr (Or.inl rfl)), gs 93 (Or.inl rfl), p (by decide), p (by decide), fun t t0 t1 => ?_, fun n n0 n1 => by rw [nN0] at n1; omega, fun l l0 l1 t t0 t1 => ?_, fun l l0 l1 => ?_, fun k k0 k1 => by rw [nN0] at k1; omega, fun n n0 n1 => by rw [nN0] at n1; omega, fun k k' k0 k1 k2 => by rw [nN0] at k2; omega⟩
    · rw [nT0] at t1
      rw [show t = 0 by omega]
      exact p (a := 94) (by decide)
    · have q := m0 l l0 l1
      rw [show (93 : Int) + 12 = 105 from rfl, show (93 : Int) + 13 = 106 from rfl, q.1, q.2, bit_0 t0 (by omega), nT0, if_neg (fun z => by omega), if_neg (fun z => by omega)]
      exact ⟨rfl, rfl⟩
    · have q := m0 l l0 l1
      rw [show (93 : Int) + 12 = 105 from rfl, show (93 : Int) + 13 = 106 from rfl, q.1, q.2]
      decide
  have p2 : h1 93 2 = 0 := p (by decide)
  have p3 : h1 93 3 = 0 := p (by decide)
  have p5 : h1 93 5 = 0 := p (by decide)
  refine ⟨⟨S, ⟨Or.inl rfl, p (by decide), p (by decide), gs 107 (Or.inr rfl), R, GOK_GIn G00_ok, p (by decide), by decide, ⟨by rw [p2]; decide, by rw [p3]; decide, fun t t0 t1 => ?_⟩, by rw [p5]; decide, fun l l0 l1 => ?_⟩, sx_at S (by decide), p (by decide), by decide, by decide, fun i i0 i1 => by omega⟩, Kn_0 (p (by decide)), ⟨p (by decide), by decide, by decide, fun i i0 i1 => by omega⟩, ⟨p (by decide), by decide, by decide, fun i i0 i1 => by omega⟩, p (by decide), p (by decide)⟩
  · rw [p2, p3, bit_0 t0 (by omega), nT0, if_neg (fun z => by omega), if_neg (fun z => by omega)]
    exact ⟨rfl, rfl⟩
  · rw [p5, bit_0 l0 (by omega)]
    exact ⟨fun z => absurd z (by decide), fun ⟨n, n0, n1, _⟩ => by rw [nN0] at n1; omega⟩
theorem Mq_start (h1 : Hp) : ∃ h2, M_new 121 122 (hnew h1 121) = some h2 ∧ Lo h1 h2 ∧ IM h2 G00 0 0 (fun _ => 0) 0 (fun _ => 0) 0 (fun _ => 0) 0 (-1) := by
  have lo : ∀ c s, c < 121 → apW wsM (hnew h1 121) c s = h1 c s := fun c s z => by
    rw [apW_no wsM _ (fun w hw => by have := wsM_ge w hw; omega)]
    unfold hnew
    rw [if_neg (by omega)]
  have d0 : ∀ s, (hnew h1 121) 121 s = dfl 121 s := fun s => by unfold hnew; rw [if_pos rfl]
  have ms := wsM_ms (hnew h1 121)
  have ss := wsM_ss (hnew h1 121)
  obtain ⟨a56, a59, a28, a1, a2, a3, a20, a27, a32, a57, a0⟩ := wsM_at (hnew h1 121)
  rw [d0, show dfl 121 1 = 0 by decide] at a1
  rw [d0, show dfl 121 2 = 0 by decide] at a2
  rw [d0, show dfl 121 3 = 0 by decide] at a3
  rw [d0, show dfl 121 20 = 0 by decide] at a20
  rw [d0, show dfl 121 27 = 0 by decide] at a27
  rw [d0, show dfl 121 32 = 0 by decide] at a32
  rw [d0, show dfl 121 57 = 0 by decide] at a57
  rw [M_new_eq]
  generalize apW wsM (hnew h1 121) = f at lo ms ss a56 a59 a28 a1 a2 a3 a20 a27 a32 a57 a0
  obtain ⟨f', e1, F1, T1⟩ := spans_ok (f0 := f) ms
  have S1 : MShp f' := MShp_sf ms F1
  obtain ⟨h2, e2, F2, -⟩ := M_forgets_ok S1
  have F : ∀ c s, (c < 139 ∨ 147 < c) → h2 c s = f c s := fun c s z => by rw [F2 c s (by omega) (by omega) (by omega) (by omega), F1 c s (by omega)]
  refine ⟨h2, ?_, fun c s z => by rw [F c s (by omega), lo c s z], ⟨fun q hq => by rw [F 121 q.1 (by omega)]; exact ms q hq, SpM_eq T1 (fun c s a b => F2 c s (by omega) (by omega) (by omega) (by omega)), ?_, GOK_GIn G00_ok, by decide, by rw [F 121 32 (by decide)]; exact a32, by decide, by decide, fun i i0 i1 => by omega⟩, ⟨by rw [F 121 20 (by decide)]; exact a20, fun i i0 i1 => by omega⟩, ⟨by rw [F 121 57 (by decide)]; exact a57, by rw [F 121 56 (by decide)]; exact a56, fun i i0 i1 => by omega⟩, fun q hq => by rw [F 121 q.1 (by omega)]; exact ss q hq, by rw [F 121 59 (by decide)]; exact a59, by rw [F 121 27 (by decide)]; exact a27, by rw [F 121 28 (by decide)]; exact a28⟩
  · unfold M_new_t
    rw [e1, ob_some, if_pos kK_121, e2, ob_some]
  · have nT0 : nT G00 = 0 := rfl
    have nN0 : nN G00 = 0 := rfl
    refine ⟨by rw [F 121 1 (by decide)]; exact a1, by rw [F 121 2 (by decide)]; exact a2, by rw [F 121 3 (by decide)]; exact a3, fun t t0 t1 => ?_, fun n n0 n1 => by rw [nN0] at n1; omega, fun t t0 t1 => by rw [nT0] at t1; omega⟩
    rw [nT0] at t1
    rw [show t = 0 by omega, F 122 0 (by decide)]
    exact a0
theorem pure_ok (sc : Int → Int) (L : Int) (h0 : 0 ≤ L) (hL : L ≤ 4096) (hs : ∀ i, r32 (sc i)) : ∃ h1 h2 hE : Hp, X_new 0 1 (hnew g00 0) = some h1 ∧ M_new 121 122 (hnew h1 121) = some h2 ∧ loopN (fun q => Lw_L18 2048 sc L (-5) 0 121 q.1 q.2) LN (0, h2) = some hE := by
  obtain ⟨h1, e1, H⟩ := X_new_ok
  obtain ⟨h2, e2, lo, IMs⟩ := Mq_start h1
  have I : Inv h2 := ⟨93, G00, 0, 0, _, 0, _, 0, _, 0, -1, GOK_EnX G00_ok, IX_lo (Xq_start H) lo, IMs⟩
  obtain ⟨hE, e, -⟩ := loop_ok (body := fun q : Int × Hp => Lw_L18 2048 sc L (-5) 0 121 q.1 q.2) (fun q => (0 ≤ q.1 ∧ q.1 ≤ L + 8) ∧ Inv q.2) (fun q => (L + 8 - q.1).toNat) (fun _ => True) (by
    rintro ⟨l3, h⟩ ⟨⟨q0, q1⟩, I⟩
    simp only at q0 q1 I
    simp only
    by_cases hl : L - 8 < l3
    · right
      refine ⟨h, ?_, trivial⟩
      unfold Lw_L18
      rw [if_pos rfl, show w32 (L - 8) = L - 8 by unfold w32; omega, if_pos hl]
    · left
      obtain ⟨h', e, I'⟩ := lw_step hs I q0 (by omega) hL
      exact ⟨(l3 + 8, h'), e, ⟨⟨by simp only; omega, by simp only; omega⟩, I'⟩, by simp only; omega⟩) LN (0, h2) ⟨⟨Int.le_refl _, by simp only; omega⟩, I⟩ (by unfold LN; simp only; omega)
  exact ⟨h1, h2, hE, e1, e2, e⟩
end
