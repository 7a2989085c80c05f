/-! grammar: the class reads all lines -/
section
variable {h h' : Hp}
theorem JA_fillI_ok {a v : Int} (ha : kK a = 21) (h3 : kL a ≤ 100000) (h0 : 0 ≤ kL a) : ∃ h', JA_fillI a v h = some h' ∧ ∀ c s, h' c s = if c = a ∧ 0 ≤ s ∧ s < kL a then v else h c s := by
  obtain ⟨q, e, p⟩ := loop_ok (body := fun q => JA_fillI_L5 a v (kL a) q.1 q.2) (fun s => 0 ≤ s.1 ∧ s.1 ≤ kL a ∧ ∀ c k, s.2 c k = if c = a ∧ 0 ≤ k ∧ k < s.1 then v else h c k) (fun s => (kL a - s.1).toNat) (fun g => ∀ c s, g c s = if c = a ∧ 0 ≤ s ∧ s < kL a then v else h c s) (by
    rintro ⟨x, g⟩ ⟨x0, x1, hg⟩
    simp only at x0 x1 hg
    unfold JA_fillI_L5
    by_cases hx : kL a ≤ x
    · right
      refine ⟨g, by simp only; rw [if_pos hx], ?_⟩
      rw [show kL a = x by omega]
      exact hg
    · left
      refine ⟨(x + 1, hput g a x v), by simp only; rw [if_neg hx, if_pos ⟨ha, by omega, by omega⟩, show w32 (x + 1) = x + 1 by unfold w32; omega], ⟨by simp only; omega, by simp only; omega, ?_⟩, by simp only; omega⟩
      intro c k
      simp only
      unfold hput
      by_cases hc : c = a ∧ k = x
      · rw [if_pos hc, if_pos ⟨hc.1, by omega, by omega⟩]
      · rw [if_neg hc, hg]
        by_cases hd : c = a ∧ 0 ≤ k ∧ k < x
        · rw [if_pos hd, if_pos ⟨hd.1, hd.2.1, by omega⟩]
        · rw [if_neg hd, if_neg]
          rintro ⟨z1, z2, z3⟩
          exact hd ⟨z1, z2, by have : ¬ k = x := fun y => hc ⟨z1, y⟩
                               omega⟩) LN (0, h) ⟨Int.le_refl _, h0, fun c k => by rw [if_neg (by simp only; omega)]⟩ (by unfold LN; simp only; omega)
  refine ⟨q, ?_, p⟩
  unfold JA_fillI
  rw [if_pos ha, e, ob_some]
end
def gT (tl : Int) (tp : Int → Int) : Nat → Int → Int → Int → (Int → Dv) → (Int × Int) ⊕ (Int × Int × (Int → Dv))
  | 0, _, _, p, _ => .inl (1, p)
  | k + 1, T, N, p, dd => if tl ≤ p then .inr (T, N, dd) else
    match gL tl tp T N p with
    | .inl e => .inl e
    | .inr (x, q) => gT tl tp k (T + 1) (N + szT x) q (fun t => if t = T then x else dd t)
def XRes (h : Hp) (Q tl : Int) (tp : Int → Int) (h' : Hp) : (Int × Int) ⊕ (Int × Int × (Int → Dv)) → Prop
  | .inl z => z.1 ≠ 0 ∧ h' 7 0 = z.1 ∧ h' 7 1 = z.2 ∧ (∃ T' N', CB h' Q T' N') ∧ LFr Q h h'
  | .inr z => (∃ p, CL h' Q tl tp z.1 z.2.1 p z.2.2) ∧ LFr Q h h'
theorem loopN_go {σ ρ : Type} {body : σ → Option (σ ⊕ ρ)} {m : Nat} {s s' : σ} (e : body s = some (.inl s')) : loopN body (m + 1) s = loopN body m s' := by
  conv => lhs; unfold loopN
  rw [e]
section
variable {h h' : Hp} {Q tl : Int} {tp : Int → Int}
theorem L41_end {t : Int} (E : GrE h Q tl tp) (h0 : h 7 0 ≠ 0 ∨ tl ≤ h 7 4) : GR_readText_L41 7 t h = some (.inr h) := by
  unfold GR_readText_L41
  by_cases z : 8 < t
  · rw [if_pos z]
  · rw [if_neg z, if_pos kK_7, E.2.2.1, if_pos (by decide), E.1.1]
    by_cases y : tl ≤ h 7 4
    · rw [if_pos y]
    · rw [if_neg y, if_neg (h0.resolve_right y)]
theorem text_ok : ∀ (k m : Nat) (T N p : Int) (dd : Int → Dv) (h : Hp), CL h Q tl tp T N p dd → T + k = 9 → k + 2 ≤ m → ∃ h', loopN (fun q => GR_readText_L41 7 q.1 q.2) m (T, h) = some h' ∧ XRes h Q tl tp h' (gT tl tp k T N p dd)
  | 0, m, T, N, p, dd, h, L, hT, hm => by
    have := L.2.1.1.1
    omega
  | k + 1, m, T, N, p, dd, h, L, hT, hm => by
    obtain ⟨m, rfl⟩ : ∃ j, m = j + 2 := ⟨m - 2, by omega⟩
    have h4 := L.2.2.1.1
    have h0 := L.2.2.1.2.1
    have tb := L.2.1.1.1
    unfold gT
    by_cases hp : tl ≤ p
    · rw [if_pos hp]
      exact ⟨h, loopN_end (L41_end L.1 (Or.inr (show tl ≤ h 7 4 by rw [h4]; exact hp))), ⟨⟨p, L⟩, LFr.rf⟩⟩
    · rw [if_neg hp]
      obtain ⟨h1, e1, R1⟩ := line_ok L
      have bd : (fun q : Int × Hp => GR_readText_L41 7 q.1 q.2) (T, h) = some (.inl (T + 1, h1)) := by
        show GR_readText_L41 7 T h = _
        unfold GR_readText_L41
        rw [if_neg (by omega), if_pos kK_7, L.1.2.2.1, if_pos (by decide), L.1.1.1, h4, if_neg hp, if_pos h0, e1, ob_some, show w32 (T + 1) = T + 1 by unfold w32; omega]
      rw [loopN_go bd]
      cases hx : gL tl tp T N p with
      | inl z =>
        rw [hx] at R1
        obtain ⟨a1, a2, a3, a4, a5⟩ := R1
        exact ⟨h1, loopN_end (L41_end (a5.gre L.1) (Or.inl (show h1 7 0 ≠ 0 by rw [a2]; exact a1))), ⟨a1, a2, a3, a4, a5⟩⟩
      | inr z =>
        obtain ⟨x, q⟩ := z
        rw [hx] at R1
        obtain ⟨L1, F1⟩ := R1
        obtain ⟨h2, e2, R2⟩ := text_ok k (m + 1) (T + 1) (N + szT x) q _ h1 L1 (by omega) (by omega)
        refine ⟨h2, e2, ?_⟩
        simp only
        simp only at R2
        revert R2
        cases gT tl tp k (T + 1) (N + szT x) q (fun t => if t = T then x else dd t) with
        | inl z => exact fun ⟨a1, a2, a3, a4, a5⟩ => ⟨a1, a2, a3, a4, F1.tr a5⟩
        | inr z => exact fun ⟨a1, a2⟩ => ⟨a1, F1.tr a2⟩
end
/-! the order of the nodes -/
def ctB (S : Int → Bool) : Nat → Nat
  | 0 => 0
  | n + 1 => ctB S n + (if S n = true then 1 else 0)
theorem ctB_le (S : Int → Bool) : ∀ n : Nat, ctB S n ≤ n
  | 0 => Nat.le_refl 0
  | n + 1 => by
    have := ctB_le S n
    show ctB S n + _ ≤ n + 1
    split <;> omega
theorem ctB_congr {S S' : Int → Bool} : ∀ n : Nat, (∀ x : Int, 0 ≤ x → x < n → S' x = S x) → ctB S' n = ctB S n
  | 0, _ => rfl
  | n + 1, q => by
    show ctB S' n + _ = ctB S n + _
    rw [ctB_congr n (fun x x0 x1 => q x x0 (by omega)), q n (by omega) (by omega)]
theorem ctB_add {S S' : Int → Bool} {a : Int} (a0 : 0 ≤ a) (sa : S a = false) (sa' : S' a = true) (q : ∀ x, x ≠ a → S' x = S x) : ∀ n : Nat, a < n → ctB S' n = ctB S n + 1
  | 0, h => by omega
  | n + 1, h => by
    show ctB S' n + (if S' n = true then 1 else 0) = ctB S n + (if S n = true then 1 else 0) + 1
    by_cases z : a = n
    · rw [ctB_congr (S := S) n (fun x x0 x1 => q x (by omega)), ← z, sa, sa']
      rfl
    · rw [ctB_add a0 sa sa' q n (by omega), q n (fun w => z w.symm)]
      omega
theorem ctB_all {S : Int → Bool} : ∀ n : Nat, (∀ x : Int, 0 ≤ x → x < n → S x = true) → ctB S n = n
  | 0, _ => rfl
  | n + 1, q => by
    show ctB S n + _ = n + 1
    rw [ctB_all n (fun x x0 x1 => q x x0 (by omega)), q n (by omega) (by omega)]
    rfl
def tnX (h : Hp) (Q n : Int) : Int := if h (Q + 9) (h (Q + 1) (h (Q + 2) n)) = 0 then 1 else if h (Q + 9) n = h (Q + 9) (h (Q + 1) (h (Q + 2) n)) then 0 else 2
def OrdI (tn : Int → Int) (o : Int → Int) (N size : Int) (S : Int → Bool) : Prop := size = ctB S N.toNat ∧ (∀ k, 0 ≤ k → k < size → 0 ≤ o k ∧ o k < N ∧ S (o k) = true) ∧ (∀ n, 0 ≤ n → n < N → S n = true → ∃ k, 0 ≤ k ∧ k < size ∧ o k = n) ∧ ∀ k k', 0 ≤ k → k < k' → k' < size → tn (o k) < tn (o k') ∨ (tn (o k) = tn (o k') ∧ o k' < o k)
theorem OrdI_congr {tn o : Int → Int} {N size : Int} {S S' : Int → Bool} (I : OrdI tn o N size S) (q : ∀ x, 0 ≤ x → x < N → S' x = S x) : OrdI tn o N size S' := by
  obtain ⟨i1, i2, i3, i4⟩ := I
  refine ⟨by rw [i1, ctB_congr N.toNat (fun x x0 x1 => q x x0 (by omega))], fun k k0 k1 => ?_, fun n n0 n1 hs => i3 n n0 n1 (by rw [← q n n0 n1]; exact hs), i4⟩
  have := i2 k k0 k1
  exact ⟨this.1, this.2.1, by rw [q _ this.1 this.2.1]; exact this.2.2⟩
theorem OrdI_add {tn o o' : Int → Int} {N size a : Int} {S S' : Int → Bool} (I : OrdI tn o N size S) (a0 : 0 ≤ a) (a1 : a < N) (sa : S a = false) (sa' : S' a = true) (q : ∀ x, x ≠ a → S' x = S x) (lt : ∀ m, S m = true → tn m < tn a ∨ (tn m = tn a ∧ a < m)) (o1 : o' size = a) (o2 : ∀ k, k ≠ size → o' k = o k) : OrdI tn o' N (size + 1) S' ∧ size < N := by
  obtain ⟨i1, i2, i3, i4⟩ := I
  have c := ctB_add a0 sa sa' q N.toNat (by omega)
  have le := ctB_le S' N.toNat
  refine ⟨⟨by rw [i1, c]; omega, fun k k0 k1 => ?_, fun n n0 n1 hs => ?_, fun k k' k0 kk k1 => ?_⟩, by omega⟩
  · by_cases z : k = size
    · rw [z, o1]; exact ⟨a0, a1, sa'⟩
    · have := i2 k k0 (by omega)
      rw [o2 k z]
      refine ⟨this.1, this.2.1, ?_⟩
      by_cases y : o k = a
      · rw [y]; exact sa'
      · rw [q _ y]; exact this.2.2
  · by_cases z : n = a
    · exact ⟨size, by omega, by omega, by rw [o1, z]⟩
    · obtain ⟨k, k0, k1, e⟩ := i3 n n0 n1 (by rw [← q n z]; exact hs)
      exact ⟨k, k0, by omega, by rw [o2 k (by omega)]; exact e⟩
  · rw [o2 k (by omega)]
    by_cases z : k' = size
    · rw [z, o1]
      exact lt _ (i2 k k0 (by omega)).2.2
    · rw [o2 k' z]
      exact i4 k k' k0 kk (by omega)
section
variable {h h' : Hp} {Q T N : Int}
theorem turnOf_ok {f : Hp} {n : Int} (O : GrO Q) (G : GShp h Q) (B : CB h Q T N) (F : ∀ c s, c ≠ Q + 11 → f c s = h c s) (n0 : 0 ≤ n) (n1 : n < N) : Gr_turnOf Q n f = some (tnX h Q n) := by
  obtain ⟨g0, g1, g2, g3, g4, g5, g6, g7, g8, g9, gr⟩ := GrO_k O
  obtain ⟨tt, x0, x1, nn, xT, rows⟩ := B
  have r := rows n n0 n1
  have eQ : ∀ s, f Q s = h Q s := fun s => F Q s (by omega)
  have ej : ∀ j, j < 11 → ∀ s, f (Q + j) s = h (Q + j) s := fun j hj s => F (Q + j) s (by omega)
  unfold Gr_turnOf tnX
  rw [if_pos g0, eQ 7, G.2.1, if_pos (show kK (Q + 2) = 21 ∧ (0 : Int) ≤ n ∧ n < kL (Q + 2) from ⟨g2.1, n0, by rw [g2.2]; omega⟩), eQ 6, G.1, ej 2 (by decide), if_pos (show kK (Q + 1) = 21 ∧ (0 : Int) ≤ h (Q + 2) n ∧ h (Q + 2) n < kL (Q + 1) from ⟨g1.1, r.2.2.1, by rw [g1.2]; omega⟩), eQ 14, G.2.2.2.2.2.2.2.2.1, ej 1 (by decide), if_pos (show kK (Q + 9) = 21 ∧ (0 : Int) ≤ h (Q + 1) (h (Q + 2) n) ∧ h (Q + 1) (h (Q + 2) n) < kL (Q + 9) from ⟨g9.1, r.2.2.2.2.1, by rw [g9.2]; omega⟩), ej 9 (by decide), if_pos (show kK (Q + 9) = 21 ∧ (0 : Int) ≤ n ∧ n < kL (Q + 9) from ⟨g9.1, n0, by rw [g9.2]; omega⟩), ej 9 (by decide)]
  split <;> rfl
def plB (tn : Int → Int) (τ a n : Int) : Bool := decide (tn n < τ ∨ (tn n = τ ∧ a < n))
theorem putInner {f : Hp} {τ size : Int} (O : GrO Q) (G : GShp h Q) (B : CB h Q T N) (F : ∀ c s, c ≠ Q + 11 → f c s = h c s) (I : OrdI (tnX h Q) (f (Q + 11)) N size (plB (tnX h Q) τ (N - 1))) : ∃ s' f', loopN (fun q => Gr_putInOrder_L16 Q τ q.1 q.2.1 q.2.2) LN (size, N - 1, f) = some (s', f') ∧ (∀ c s, c ≠ Q + 11 → f' c s = h c s) ∧ OrdI (tnX h Q) (f' (Q + 11)) N s' (plB (tnX h Q) τ (-1)) := by
  obtain ⟨g0, g1, g2, g3, g4, g5, g6, g7, g8, g9, g10, g11, gr⟩ := GrO_k O
  have nn := B.2.2.2.1
  obtain ⟨⟨s', f'⟩, e, p1, p2⟩ := loop_ok (body := fun q : Int × Int × Hp => Gr_putInOrder_L16 Q τ q.1 q.2.1 q.2.2) (fun q => (-1 ≤ q.2.1 ∧ q.2.1 < N) ∧ (∀ c s, c ≠ Q + 11 → q.2.2 c s = h c s) ∧ OrdI (tnX h Q) (q.2.2 (Q + 11)) N q.1 (plB (tnX h Q) τ q.2.1)) (fun q => (q.2.1 + 1).toNat) (fun r : Int × Hp => (∀ c s, c ≠ Q + 11 → r.2 c s = h c s) ∧ OrdI (tnX h Q) (r.2 (Q + 11)) N r.1 (plB (tnX h Q) τ (-1))) (by
    rintro ⟨z, a, m⟩ ⟨⟨a0, a1⟩, fr, iv⟩
    simp only at a0 a1 fr iv
    simp only
    unfold Gr_putInOrder_L16 Gr_putInOrder_j39
    by_cases ha : a < 0
    · right
      rw [if_pos ha]
      have : a = -1 := by omega
      subst this
      exact ⟨_, rfl, fr, iv⟩
    · left
      rw [if_neg ha, if_pos g0, turnOf_ok O G B fr (by omega) a1, ob_some, show w32 (a + (-1)) = a - 1 by unfold w32; omega]
      by_cases ht : tnX h Q a = τ
      · rw [if_pos ht]
        have sa : plB (tnX h Q) τ a a = false := by unfold plB; simp; omega
        have sa' : plB (tnX h Q) τ (a - 1) a = true := by unfold plB; simp; omega
        have sq : ∀ x, x ≠ a → plB (tnX h Q) τ (a - 1) x = plB (tnX h Q) τ a x := fun x hx => by
          unfold plB
          rw [decide_eq_decide]
          constructor <;> intro w <;> omega
        have lt : ∀ m, plB (tnX h Q) τ a m = true → tnX h Q m < tnX h Q a ∨ (tnX h Q m = tnX h Q a ∧ a < m) := fun m w => by
          unfold plB at w
          have := of_decide_eq_true w
          omega
        obtain ⟨I', zN⟩ := OrdI_add (o' := (hput m (Q + 11) z a) (Q + 11)) iv (by omega) a1 sa sa' sq lt (hput_eq ..) (fun k hk => hput_ne2 hk)
        have z0 : 0 ≤ z := by rw [iv.1]; omega
        have e16 : m Q 16 = Q + 11 := by rw [fr Q 16 (by omega)]; exact G.2.2.2.2.2.2.2.2.2.2.1
        rw [e16, if_pos (show kK (Q + 11) = 21 ∧ (0 : Int) ≤ z ∧ z < kL (Q + 11) from ⟨g11.1, z0, by rw [g11.2]; omega⟩)]
        refine ⟨(z + 1, a - 1, hput m (Q + 11) z a), by rw [show w32 (z + 1) = z + 1 by unfold w32; omega], ⟨⟨by simp only; omega, by simp only; omega⟩, fun c s hc => ?_, I'⟩, by simp only; omega⟩
        simp only
        rw [hput_ne1 hc]
        exact fr c s hc
      · rw [if_neg ht]
        refine ⟨(z, a - 1, m), rfl, ⟨⟨by simp only; omega, by simp only; omega⟩, fr, OrdI_congr iv (fun x x0 x1 => ?_)⟩, by simp only; omega⟩
        simp only
        unfold plB
        rw [decide_eq_decide]
        constructor
        · intro w
          rcases w with w | w
          · exact Or.inl w
          · by_cases hx : x = a
            · rw [hx] at w; exact absurd w.1 ht
            · omega
        · intro w
          omega) LN (size, N - 1, f) ⟨⟨by simp only; omega, by simp only; omega⟩, F, I⟩ (by unfold LN; simp only; omega)
  exact ⟨s', f', e, p1, p2⟩
theorem putInOrder_ok (O : GrO Q) (G : GShp h Q) (B : CB h Q T N) : ∃ h', Gr_putInOrder Q h = some h' ∧ (∀ c s, c ≠ Q + 11 → h' c s = h c s) ∧ OrdI (tnX h Q) (h' (Q + 11)) N N (fun _ => true) := by
  have nn := B.2.2.2.1
  have g0 := (GrO_k O).1
  have tb : ∀ n, 0 ≤ tnX h Q n ∧ tnX h Q n < 3 := fun n => by unfold tnX; split; decide; split <;> decide
  have I0 : OrdI (tnX h Q) (h (Q + 11)) N 0 (plB (tnX h Q) 0 (N - 1)) := by
    refine ⟨?_, fun k k0 k1 => by omega, fun n n0 n1 hs => ?_, fun k k' k0 k1 k2 => by omega⟩
    · rw [ctB_congr (S := fun _ => false) N.toNat (fun x x0 x1 => by
        have := tb x
        unfold plB
        exact decide_eq_false (by omega))]
      have : ∀ n : Nat, ctB (fun _ => false) n = 0 := fun n => by
        induction n with
        | zero => rfl
        | succ n ih => show ctB _ n + _ = 0; rw [ih]; rfl
      rw [this]
      rfl
    · have := tb n
      unfold plB at hs
      have := of_decide_eq_true hs
      omega
  obtain ⟨h', e, p1, p2⟩ := loop_ok (body := fun q : Int × Int × Hp => Gr_putInOrder_L4 Q q.1 q.2.1 q.2.2) (fun q => (0 ≤ q.2.1 ∧ q.2.1 ≤ 3) ∧ (∀ c s, c ≠ Q + 11 → q.2.2 c s = h c s) ∧ OrdI (tnX h Q) (q.2.2 (Q + 11)) N q.1 (plB (tnX h Q) q.2.1 (N - 1))) (fun q => (3 - q.2.1).toNat) (fun r : Hp => (∀ c s, c ≠ Q + 11 → r c s = h c s) ∧ OrdI (tnX h Q) (r (Q + 11)) N N (fun _ => true)) (by
    rintro ⟨z, τ, m⟩ ⟨⟨a0, a1⟩, fr, iv⟩
    simp only at a0 a1 fr iv
    simp only
    unfold Gr_putInOrder_L4
    by_cases ht : 3 ≤ τ
    · right
      rw [if_pos ht]
      have I := OrdI_congr (S' := fun _ => true) iv (fun x x0 x1 => by
        have := tb x
        unfold plB
        symm
        exact decide_eq_true (by omega))
      have : z = N := by
        rw [I.1, ctB_all N.toNat (fun x _ _ => rfl)]
        omega
      subst this
      exact ⟨_, rfl, fr, I⟩
    · left
      rw [if_neg ht, if_pos g0, fr Q 1 (by omega), B.2.2.1, show w32 (N - 1) = N - 1 by unfold w32; omega]
      obtain ⟨s', f', e, p1, p2⟩ := putInner O G B fr iv
      rw [e, ob_some, show w32 (τ + 1) = τ + 1 by unfold w32; omega]
      refine ⟨(s', τ + 1, f'), rfl, ⟨⟨by simp only; omega, by simp only; omega⟩, p1, OrdI_congr p2 (fun x x0 x1 => ?_)⟩, by simp only; omega⟩
      simp only
      unfold plB
      rw [decide_eq_decide]
      constructor <;> intro w <;> omega) LN (0, 0, h) ⟨⟨by simp only; omega, by simp only; omega⟩, fun _ _ _ => rfl, I0⟩ (by unfold LN; simp only; omega)
  refine ⟨h', ?_, p1, p2⟩
  unfold Gr_putInOrder
  rw [e, ob_some]
end
