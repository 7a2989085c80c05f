/-! grammar: the reference takes over what it read -/
section
variable {g g' f : Hp} {tl p N T : Int} {tp : Int → Int} {dd : Int → Dv} {G : Gm}
theorem Bs_eq {Bs : Int → Int} (K : GOK G dd) (B0 : Bs 0 = 0) (Br : ∀ t, 0 ≤ t → t < nT G → Bs (t + 1) = Bs t + szT (dd t)) : ∀ k : Nat, (k : Int) ≤ nT G → Bs k = ft G k
  | 0, _ => by rw [show ((0 : Nat) : Int) = 0 from rfl, B0, K.2.2.1]
  | k + 1, h => by
    have i := Bs_eq K B0 Br k (by omega)
    have a := Br k (by omega) (by omega)
    have b := (K.2.2.2.2 k (by omega) (by omega)).2.1
    rw [show ((k + 1 : Nat) : Int) = (k : Int) + 1 by omega, a, b, i]
/-- the rows that were read are the grammar's -/
theorem rows_eq (K : GOK G dd) (X : TrN g (nT G) (nN G) dd) : (∀ t, 0 ≤ t → t < nT G → g 122 (9 + t) = ft G t) ∧ ∀ i n, 0 ≤ i → i < 6 → 0 ≤ n → n < nN G → RM g i n = G i n := by
  obtain ⟨Bs, B0, BT, Br⟩ := X
  have be : ∀ t, 0 ≤ t → t ≤ nT G → Bs t = ft G t := fun t t0 t1 => by
    have := Bs_eq K B0 (fun t t0 t1 => (Br t t0 t1).2.2.1) t.toNat (by omega)
    rw [show (t.toNat : Int) = t by omega] at this
    exact this
  refine ⟨fun t t0 t1 => by rw [(Br t t0 t1).1, be t t0 (by omega)], fun i n i0 i1 n0 n1 => ?_⟩
  obtain ⟨t, x, w, t0, t1, a, b, c, S⟩ := GOK_at K n0 n1
  have e := (K.2.2.2.2 t t0 t1).2.1
  have H := (Br t t0 t1).2.1
  rw [be t t0 (by omega)] at H
  exact Hd_un (dd t) (ft G t) (-1) (K.2.2.2.2 t t0 t1).1 H i n i0 i1 a (by omega)
theorem L124_ok {d : Nat} (S : MShp g) (e1 : g 121 1 = T) (T0 : 0 ≤ T) (T1 : T ≤ 8) : ∃ g', loopN (fun q => M_grammar_L124 d 121 q.1 q.2) LN (0, g) = some g' ∧ (∀ c s, (c ≠ 122 ∨ s < 0 ∨ T ≤ s) → g' c s = g c s) ∧ ∀ t, 0 ≤ t → t < T → g' 122 t = g 122 (9 + t) := by
  obtain ⟨r, e, p1, p2⟩ := loop_ok (body := fun q : Int × Hp => M_grammar_L124 d 121 q.1 q.2) (fun q => (0 ≤ q.1 ∧ q.1 ≤ T) ∧ (∀ c s, (c ≠ 122 ∨ s < 0 ∨ q.1 ≤ s) → q.2 c s = g c s) ∧ ∀ t, 0 ≤ t → t < q.1 → q.2 122 t = g 122 (9 + t)) (fun q => (T - q.1).toNat) (fun r : Hp => (∀ c s, (c ≠ 122 ∨ s < 0 ∨ T ≤ s) → r c s = g c s) ∧ ∀ t, 0 ≤ t → t < T → r 122 t = g 122 (9 + t)) (by
    rintro ⟨t, f⟩ ⟨⟨t0, t1⟩, fr, iv⟩
    simp only at t0 t1 fr iv
    simp only
    have e121 : ∀ s, f 121 s = g 121 s := fun s => fr 121 s (Or.inl (by decide))
    have s4 : f 121 4 = 122 := by rw [e121]; exact ms_at S (by decide)
    unfold M_grammar_L124
    rw [if_pos kK_121, e121, e1]
    by_cases ht : T ≤ t
    · right
      have : t = T := by omega
      subst this
      rw [if_pos ht]
      exact ⟨_, rfl, fr, iv⟩
    · left
      rw [if_neg ht, s4, show w32 (9 + t) = 9 + t by unfold w32; omega, if_pos ⟨by decide, by omega, by rw [show kL 122 = 18 by decide]; omega⟩, if_pos ⟨by decide, by omega, by rw [show kL 122 = 18 by decide]; omega⟩, fr 122 (9 + t) (by omega)]
      refine ⟨(t + 1, hput f 122 t (g 122 (9 + t))), by simp only; rw [show w32 (t + 1) = t + 1 by unfold w32; omega], ⟨⟨by simp only; omega, by simp only; omega⟩, fun c s z => ?_, fun u u0 u1 => ?_⟩, by simp only; omega⟩
      · simp only at z ⊢
        rw [hput_no (by omega)]
        exact fr c s (by omega)
      · simp only at u1 ⊢
        by_cases z : u = t
        · rw [z, hput_eq]
        · rw [hput_ne2 z]
          exact iv u u0 (by omega)) LN (0, g) ⟨⟨Int.le_refl _, T0⟩, fun _ _ _ => rfl, fun u u0 u1 => by simp only at u1; omega⟩ (by unfold LN; simp only; omega)
  exact ⟨r, e, p1, p2⟩
def cpB (d : Nat) (l0 l1 : Int) (h_15 : Hp) : Option ((Int × Hp) ⊕ Hp) := if kK (h_15 l0 8) = 21 ∧ (0 : Int) ≤ w32 (40 + l1) ∧ w32 (40 + l1) < kL (h_15 l0 8) then M_grammar_j255 d l0 l1 ((if h_15 (h_15 l0 8) (w32 (40 + l1)) = (-1) then (-1) else w32 ((h_15 (h_15 l0 8) (w32 (40 + l1))) - 40))) l1 (h_15 l0 8) h_15 else none
def cpA (d : Nat) (l0 l1 : Int) (h_14 : Hp) : Option ((Int × Hp) ⊕ Hp) := if kK (h_14 l0 7) = 21 ∧ (0 : Int) ≤ w32 (40 + l1) ∧ w32 (40 + l1) < kL (h_14 l0 7) then if kK (h_14 l0 7) = 21 ∧ (0 : Int) ≤ l1 ∧ l1 < kL (h_14 l0 7) then cpB d l0 l1 (hput h_14 (h_14 l0 7) l1 (h_14 (h_14 l0 7) (w32 (40 + l1)))) else none else none
def cp9 (d : Nat) (l0 l1 : Int) (h_13 : Hp) : Option ((Int × Hp) ⊕ Hp) := if kK (h_13 l0 6) = 21 ∧ (0 : Int) ≤ w32 (40 + l1) ∧ w32 (40 + l1) < kL (h_13 l0 6) then if kK (h_13 l0 6) = 21 ∧ (0 : Int) ≤ l1 ∧ l1 < kL (h_13 l0 6) then cpA d l0 l1 (hput h_13 (h_13 l0 6) l1 (h_13 (h_13 l0 6) (w32 (40 + l1)))) else none else none
theorem L168_eq (d : Nat) (l0 l1 : Int) (h : Hp) : M_grammar_L168 d l0 l1 h = if kK l0 = 11 then if h l0 2 ≤ l1 then some (.inr h) else if kK (h l0 5) = 21 ∧ (0 : Int) ≤ w32 (40 + l1) ∧ w32 (40 + l1) < kL (h l0 5) then if kK (h l0 5) = 21 ∧ (0 : Int) ≤ l1 ∧ l1 < kL (h l0 5) then cp9 d l0 l1 (hput h (h l0 5) l1 (h (h l0 5) (w32 (40 + l1)))) else none else none else none := rfl
def cpV (v : Int) : Int := if v = (-1) then (-1) else w32 (v - 40)
theorem j255_eq (d : Nat) (l0 l1 s0 s1 s2 : Int) (h : Hp) : M_grammar_j255 d l0 l1 s0 s1 s2 h = if kK s2 = 21 ∧ (0 : Int) ≤ s1 ∧ s1 < kL s2 then if kK l0 = 11 then if kK ((hput h s2 s1 s0) l0 9) = 21 ∧ (0 : Int) ≤ w32 (40 + l1) ∧ w32 (40 + l1) < kL ((hput h s2 s1 s0) l0 9) then M_grammar_j290 d l0 l1 (cpV ((hput h s2 s1 s0) ((hput h s2 s1 s0) l0 9) (w32 (40 + l1)))) l1 ((hput h s2 s1 s0) l0 9) (hput h s2 s1 s0) else none else none else none := rfl
theorem j290_eq (d : Nat) (l0 l1 s0 s1 s2 : Int) (h : Hp) : M_grammar_j290 d l0 l1 s0 s1 s2 h = if kK s2 = 21 ∧ (0 : Int) ≤ s1 ∧ s1 < kL s2 then if kK l0 = 11 then if kK ((hput h s2 s1 s0) l0 10) = 21 ∧ (0 : Int) ≤ w32 (40 + l1) ∧ w32 (40 + l1) < kL ((hput h s2 s1 s0) l0 10) then M_grammar_j325 d l0 l1 (cpV ((hput h s2 s1 s0) ((hput h s2 s1 s0) l0 10) (w32 (40 + l1)))) l1 ((hput h s2 s1 s0) l0 10) (hput h s2 s1 s0) else none else none else none := rfl
def cpH (f : Hp) (n : Int) : Hp := hput (hput (hput (hput (hput (hput f 123 n (f 123 (40 + n))) 124 n (f 124 (40 + n))) 125 n (f 125 (40 + n))) 126 n (cpV (f 126 (40 + n)))) 127 n (cpV (f 127 (40 + n)))) 128 n (cpV (f 128 (40 + n)))
theorem cp1 {d : Nat} {n : Int} (S : MShp f) (e2 : f 121 2 = N) (n0 : 0 ≤ n) (n1 : n < N) (N1 : N ≤ 40) : M_grammar_L168 d 121 n f = some (.inl (n + 1, cpH f n)) := by
  have s5 : f 121 5 = 123 := ms_at S (by decide)
  have s6 : f 121 6 = 124 := ms_at S (by decide)
  have s7 : f 121 7 = 125 := ms_at S (by decide)
  have s8 : f 121 8 = 126 := ms_at S (by decide)
  have s9 : f 121 9 = 127 := ms_at S (by decide)
  have s10 : f 121 10 = 128 := ms_at S (by decide)
  have w0 : w32 (40 + n) = 40 + n := by unfold w32; omega
  have p : ∀ {h : Hp} {c v : Int} (i : Int), c ≠ 121 → (hput h c n v) 121 i = h 121 i := fun i hc => hput_ne1 (fun z => hc z.symm)
  have q : ∀ {h : Hp} {c x v : Int}, (hput h c n v) x (40 + n) = h x (40 + n) := hput_ne2 (by omega)
  rw [L168_eq, if_pos kK_121, e2, if_neg (by omega), s5, w0, if_pos ⟨by decide, by omega, by rw [show kL 123 = 80 by decide]; omega⟩, if_pos ⟨by decide, by omega, by rw [show kL 123 = 80 by decide]; omega⟩]
  unfold cp9
  rw [p 6 (by decide), s6, w0, if_pos ⟨by decide, by omega, by rw [show kL 124 = 80 by decide]; omega⟩, if_pos ⟨by decide, by omega, by rw [show kL 124 = 80 by decide]; omega⟩, q]
  unfold cpA
  rw [p 7 (by decide), p 7 (by decide), s7, w0, if_pos ⟨by decide, by omega, by rw [show kL 125 = 80 by decide]; omega⟩, if_pos ⟨by decide, by omega, by rw [show kL 125 = 80 by decide]; omega⟩, q, q]
  unfold cpB
  rw [p 8 (by decide), p 8 (by decide), p 8 (by decide), s8, w0, if_pos ⟨by decide, by omega, by rw [show kL 126 = 80 by decide]; omega⟩, q, q, q, j255_eq, if_pos ⟨by decide, by omega, by rw [show kL 126 = 80 by decide]; omega⟩, if_pos kK_121, p 9 (by decide), p 9 (by decide), p 9 (by decide), p 9 (by decide), s9, w0, if_pos ⟨by decide, by omega, by rw [show kL 127 = 80 by decide]; omega⟩, q, q, q, q, j290_eq, if_pos ⟨by decide, by omega, by rw [show kL 127 = 80 by decide]; omega⟩, if_pos kK_121, p 10 (by decide), p 10 (by decide), p 10 (by decide), p 10 (by decide), p 10 (by decide), s10, w0, if_pos ⟨by decide, by omega, by rw [show kL 128 = 80 by decide]; omega⟩, q, q, q, q, q]
  unfold M_grammar_j325
  rw [if_pos ⟨by decide, by omega, by rw [show kL 128 = 80 by decide]; omega⟩, show w32 (n + 1) = n + 1 by unfold w32; omega]
  rfl
theorem L168_ok {d : Nat} (S : MShp g) (e2 : g 121 2 = N) (N0 : 0 ≤ N) (N1 : N ≤ 40) : ∃ g', loopN (fun q => M_grammar_L168 d 121 q.1 q.2) LN (0, g) = some g' ∧ (∀ c s, (c < 123 ∨ 128 < c ∨ s < 0 ∨ N ≤ s) → g' c s = g c s) ∧ ∀ n, 0 ≤ n → n < N → g' 123 n = g 123 (40 + n) ∧ g' 124 n = g 124 (40 + n) ∧ g' 125 n = g 125 (40 + n) ∧ g' 126 n = cpV (g 126 (40 + n)) ∧ g' 127 n = cpV (g 127 (40 + n)) ∧ g' 128 n = cpV (g 128 (40 + n)) := by
  obtain ⟨r, e, p1, p2⟩ := loop_ok (body := fun q : Int × Hp => M_grammar_L168 d 121 q.1 q.2) (fun q => (0 ≤ q.1 ∧ q.1 ≤ N) ∧ (∀ c s, (c < 123 ∨ 128 < c ∨ s < 0 ∨ q.1 ≤ s) → q.2 c s = g c s) ∧ ∀ n, 0 ≤ n → n < q.1 → q.2 123 n = g 123 (40 + n) ∧ q.2 124 n = g 124 (40 + n) ∧ q.2 125 n = g 125 (40 + n) ∧ q.2 126 n = cpV (g 126 (40 + n)) ∧ q.2 127 n = cpV (g 127 (40 + n)) ∧ q.2 128 n = cpV (g 128 (40 + n))) (fun q => (N - q.1).toNat) (fun r : Hp => (∀ c s, (c < 123 ∨ 128 < c ∨ s < 0 ∨ N ≤ s) → r c s = g c s) ∧ ∀ n, 0 ≤ n → n < N → r 123 n = g 123 (40 + n) ∧ r 124 n = g 124 (40 + n) ∧ r 125 n = g 125 (40 + n) ∧ r 126 n = cpV (g 126 (40 + n)) ∧ r 127 n = cpV (g 127 (40 + n)) ∧ r 128 n = cpV (g 128 (40 + n))) (by
    rintro ⟨n, f⟩ ⟨⟨n0, n1⟩, fr, iv⟩
    simp only at n0 n1 fr iv
    simp only
    have e121 : ∀ s, f 121 s = g 121 s := fun s => fr 121 s (Or.inl (by decide))
    have Sf : MShp f := fun q hq => by rw [e121]; exact S q hq
    have e2f : f 121 2 = N := by rw [e121]; exact e2
    by_cases hn : N ≤ n
    · right
      have : n = N := by omega
      subst this
      refine ⟨f, ?_, fr, iv⟩
      rw [L168_eq, if_pos kK_121, e2f, if_pos hn]
    · left
      refine ⟨(n + 1, cpH f n), cp1 Sf e2f n0 (by omega) N1, ⟨⟨by simp only; omega, by simp only; omega⟩, fun c s z => ?_, fun m m0 m1 => ?_⟩, by simp only; omega⟩
      · simp only at z ⊢
        unfold cpH
        rw [hput_no (by omega), hput_no (by omega), hput_no (by omega), hput_no (by omega), hput_no (by omega), hput_no (by omega)]
        exact fr c s (by omega)
      · simp only at m1 ⊢
        by_cases z : m = n
        · subst z
          have sc : ∀ c, f c (40 + m) = g c (40 + m) := fun c => fr c (40 + m) (by omega)
          unfold cpH
          refine ⟨?_, ?_, ?_, ?_, ?_, ?_⟩
          · rw [hput_ne1 (by decide), hput_ne1 (by decide), hput_ne1 (by decide), hput_ne1 (by decide), hput_ne1 (by decide), hput_eq, sc]
          · rw [hput_ne1 (by decide), hput_ne1 (by decide), hput_ne1 (by decide), hput_ne1 (by decide), hput_eq, sc]
          · rw [hput_ne1 (by decide), hput_ne1 (by decide), hput_ne1 (by decide), hput_eq, sc]
          · rw [hput_ne1 (by decide), hput_ne1 (by decide), hput_eq, sc]
          · rw [hput_ne1 (by decide), hput_eq, sc]
          · rw [hput_eq, sc]
        · have e : ∀ c, (cpH f n) c m = f c m := fun c => by
            unfold cpH
            rw [hput_ne2 z, hput_ne2 z, hput_ne2 z, hput_ne2 z, hput_ne2 z, hput_ne2 z]
          rw [e, e, e, e, e, e]
          exact iv m m0 (by omega)) LN (0, g) ⟨⟨Int.le_refl _, N0⟩, fun _ _ _ => rfl, fun u u0 u1 => by simp only at u1; omega⟩ (by unfold LN; simp only; omega)
  exact ⟨r, e, p1, p2⟩
theorem cpV_up {v w : Int} (h : upT v = w) (w0 : -1 ≤ w) (w1 : w ≤ 40) : cpV v = w := by
  unfold upT at h
  unfold cpV
  by_cases z : v = -1
  · rw [if_pos z] at h ⊢; exact h
  · rw [if_neg z] at h ⊢
    rw [show w32 (v - 40) = v - 40 by unfold w32; omega]
    exact h
end
