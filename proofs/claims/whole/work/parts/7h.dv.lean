/-! ways as trees: a kind of terms serves for them -/
abbrev Dv : Type := Lean.Grind.Linarith.Expr
/-- what a loop finds that takes terms off k until k is below one -/
def Pick (f : Int → Nat) (lo hi : Int) (k : Nat) (x : Int) (k' : Nat) : Prop := lo ≤ x ∧ x ≤ hi ∧ k = sI f lo (x - 1) + k' ∧ k' < f x
theorem sN_ex {f : Int → Nat} {lo : Int} {k : Nat} : ∀ n : Nat, k < sN f lo n → ∃ m : Nat, m < n ∧ ∃ k', k = sN f lo m + k' ∧ k' < f (lo + m)
  | 0, h => absurd h (Nat.not_lt_zero _)
  | n + 1, h => by
    have h' : k < sN f lo n + f (lo + n) := h
    by_cases hk : k < sN f lo n
    · obtain ⟨m, m1, r⟩ := sN_ex n hk
      exact ⟨m, by omega, r⟩
    · exact ⟨n, by omega, k - sN f lo n, by omega, by omega⟩
theorem Pick_ex {f : Int → Nat} {lo hi : Int} {k : Nat} (h : k < sI f lo hi) : ∃ x k', Pick f lo hi k x k' := by
  obtain ⟨m, m1, k', e, l⟩ := sN_ex _ h
  refine ⟨lo + m, k', by omega, by omega, ?_, l⟩
  unfold sI
  rw [show (lo + (m : Int) - 1 + 1 - lo).toNat = m by omega]
  exact e
theorem sN_le {f : Int → Nat} {lo : Int} {m : Nat} : ∀ n : Nat, m ≤ n → sN f lo m ≤ sN f lo n
  | 0, h => by rw [show m = 0 by omega]; exact Nat.le_refl _
  | n + 1, h => by
    by_cases e : m = n + 1
    · rw [e]; exact Nat.le_refl _
    · have := sN_le (f := f) (lo := lo) n (show m ≤ n by omega)
      show _ ≤ sN f lo n + f (lo + n)
      omega
theorem sI_mono {f : Int → Nat} {lo x y : Int} (h : x ≤ y) : sI f lo x ≤ sI f lo y := sN_le _ (by omega)
theorem sI_1 {f : Int → Nat} {lo x : Int} (h : lo ≤ x) : sI f lo x = sI f lo (x - 1) + f x := by
  unfold sI
  obtain ⟨n, e⟩ : ∃ n : Nat, (x + 1 - lo).toNat = n + 1 := ⟨(x - lo).toNat, by omega⟩
  rw [e, show (x - 1 + 1 - lo).toNat = n by omega]
  show sN f lo n + f (lo + n) = _
  rw [show lo + (n : Int) = x by omega]
theorem Pick_u {f : Int → Nat} {lo hi hi' : Int} {k : Nat} {x x' : Int} {k' k'' : Nat} (a : Pick f lo hi k x k') (b : Pick f lo hi' k x' k'') : x = x' ∧ k' = k'' := by
  obtain ⟨a1, a2, a3, a4⟩ := a
  obtain ⟨b1, b2, b3, b4⟩ := b
  have e1 := sI_1 (f := f) a1
  have e2 := sI_1 (f := f) b1
  by_cases h : x = x'
  · subst h; exact ⟨rfl, by omega⟩
  by_cases l : x < x'
  · have := sI_mono (f := f) (lo := lo) (show x ≤ x' - 1 by omega)
    omega
  · have := sI_mono (f := f) (lo := lo) (show x' ≤ x - 1 by omega)
    omega
theorem Pick_lt {f : Int → Nat} {lo hi : Int} {k : Nat} {x : Int} {k' : Nat} (a : Pick f lo hi k x k') : k < sI f lo hi := by
  have e1 := sI_1 (f := f) a.1
  have := sI_mono (f := f) (lo := lo) a.2.1
  have := a.2.2.1
  have := a.2.2.2
  omega
section
variable (G : Gm) (ou : Int → Bool) (row : Int → Int)
def fH (l i j : Int) : Int → Nat := fun t => if goB G ou t l 0 then wW G ou row 1 (ft G t) i j (-1) (-1) else 0
def fC (node i j p q t a : Int) : Int → Nat := fun c => wAround G (wW G ou row) node t a c i j p q
def fA (node i j p q t : Int) : Int → Nat := fun a => sI (fC G ou row node i j p q t a) (if p = -1 then a else q) j
def fT (node i j p q : Int) : Int → Nat := fun t => if goB G ou t (lb G node) 1 then sI (fA G ou row node i j p q t) i (if p = -1 then j else p) else 0
def fS (node i j p q : Int) : Int → Nat := fun m => wSplit G (wW G ou row) node i m j p q
def bare (node i j p q : Int) : Nat := if mk G node = 2 then 0 else wW G ou row 0 node i j p q
/-- the tree d is way number k of an item; 2 for half: of a guest -/
def Nth : Dv → Int → Int → Int → Int → Int → Int → Nat → Prop
  | .zero, half, node, _, _, _, _, k => half ≠ 2 ∧ (kd G node = 1 ∨ kd G node = 2 ∨ kd G node = 3) ∧ k = 0
  | .var _, _, _, _, _, _, _, _ => False
  | .intMul t d, half, node, i, j, p, q, k => (half = 2 ∧ t = node ∧ Nth d 1 (ft G t) i j p q k) ∨ (half ≠ 2 ∧ kd G node = 4 ∧ ∃ k', Pick (fH G ou row (lb G node) i j) 0 (nT G - 1) k t k' ∧ Nth d 1 (ft G t) i j (-1) (-1) k')
  | .neg d, half, node, i, j, p, q, k => half = 1 ∧ kd G node = 0 ∧ mk G node ≠ 2 ∧ k < wW G ou row 0 node i j p q ∧ Nth d 0 node i j p q k
  | .sub x d, half, node, i, j, p, q, k => half = 1 ∧ kd G node = 0 ∧ mk G node ≠ 1 ∧ bare G ou row node i j p q ≤ k ∧ ∃ t k1 a k2 c k3, Pick (fT G ou row node i j p q) 0 (nT G - 1) (k - bare G ou row node i j p q) t k1 ∧ Pick (fA G ou row node i j p q t) i (if p = -1 then j else p) k1 a k2 ∧ Pick (fC G ou row node i j p q t a) (if p = -1 then a else q) j k2 c k3 ∧ Nth x 2 t i j a c (k3 / wW G ou row 0 node a c p q) ∧ Nth d 0 node a c p q (k3 % wW G ou row 0 node a c p q)
  | .natMul _ d, half, node, i, j, p, q, k => half = 0 ∧ kd G node = 0 ∧ c2 G node = -1 ∧ Nth d 1 (c1 G node) i j p q k
  | .add x y, half, node, i, j, p, q, k => half = 0 ∧ kd G node = 0 ∧ c2 G node ≠ -1 ∧ ∃ m k1, Pick (fS G ou row node i j p q) i j k m k1 ∧ Nth x 1 (c1 G node) i m (gp (sp G (c1 G node)) p) (gp (sp G (c1 G node)) q) (k1 / wW G ou row 1 (c2 G node) m j (gp (sp G (c2 G node)) p) (gp (sp G (c2 G node)) q)) ∧ Nth y 1 (c2 G node) m j (gp (sp G (c2 G node)) p) (gp (sp G (c2 G node)) q) (k1 % wW G ou row 1 (c2 G node) m j (gp (sp G (c2 G node)) p) (gp (sp G (c2 G node)) q))
end
section
variable {G : Gm} {ou : Int → Bool} {row : Int → Int}
theorem fC_pos {node i j p q t a c : Int} {k : Nat} (h : k < fC G ou row node i j p q t a c) : (nd G (ft G t) ≤ cov i j a c ∧ nd G node ≤ cov a c p q) ∧ k / wW G ou row 0 node a c p q < wW G ou row 1 (ft G t) i j a c ∧ k % wW G ou row 0 node a c p q < wW G ou row 0 node a c p q := by
  unfold fC wAround at h
  by_cases hr : nd G (ft G t) ≤ cov i j a c ∧ nd G node ≤ cov a c p q
  · rw [if_pos hr] at h
    refine ⟨hr, Nat.div_lt_of_lt_mul h, Nat.mod_lt _ ?_⟩
    refine Nat.pos_of_ne_zero (fun z => ?_)
    rw [z, Nat.zero_mul] at h
    exact Nat.not_lt_zero _ h
  · rw [if_neg hr] at h
    exact absurd h (Nat.not_lt_zero _)
theorem fS_pos {node i j p q m : Int} {k : Nat} (h : k < fS G ou row node i j p q m) : (¬ (sp G (c1 G node) = 1 ∧ m < q) ∧ ¬ (sp G (c2 G node) = 1 ∧ p < m) ∧ nd G (c1 G node) ≤ cov i m (gp (sp G (c1 G node)) p) (gp (sp G (c1 G node)) q) ∧ nd G (c2 G node) ≤ cov m j (gp (sp G (c2 G node)) p) (gp (sp G (c2 G node)) q)) ∧ k / wW G ou row 1 (c2 G node) m j (gp (sp G (c2 G node)) p) (gp (sp G (c2 G node)) q) < wW G ou row 1 (c1 G node) i m (gp (sp G (c1 G node)) p) (gp (sp G (c1 G node)) q) ∧ k % wW G ou row 1 (c2 G node) m j (gp (sp G (c2 G node)) p) (gp (sp G (c2 G node)) q) < wW G ou row 1 (c2 G node) m j (gp (sp G (c2 G node)) p) (gp (sp G (c2 G node)) q) := by
  unfold fS wSplit at h
  by_cases hr : ¬ (sp G (c1 G node) = 1 ∧ m < q) ∧ ¬ (sp G (c2 G node) = 1 ∧ p < m) ∧ nd G (c1 G node) ≤ cov i m (gp (sp G (c1 G node)) p) (gp (sp G (c1 G node)) q) ∧ nd G (c2 G node) ≤ cov m j (gp (sp G (c2 G node)) p) (gp (sp G (c2 G node)) q)
  · rw [if_pos hr] at h
    rw [Nat.mul_comm] at h
    refine ⟨hr, Nat.div_lt_of_lt_mul h, Nat.mod_lt _ ?_⟩
    refine Nat.pos_of_ne_zero (fun z => ?_)
    rw [z, Nat.zero_mul] at h
    exact Nat.not_lt_zero _ h
  · rw [if_neg hr] at h
    exact absurd h (Nat.not_lt_zero _)
theorem fT_pos {node i j p q t : Int} {k : Nat} (h : k < fT G ou row node i j p q t) : goB G ou t (lb G node) 1 = true ∧ k < sI (fA G ou row node i j p q t) i (if p = -1 then j else p) := by
  unfold fT at h
  cases hg : goB G ou t (lb G node) 1
  · rw [hg, if_neg Bool.false_ne_true] at h; exact absurd h (Nat.not_lt_zero _)
  · rw [hg, if_pos rfl] at h; exact ⟨rfl, h⟩
theorem fH_pos {l i j t : Int} {k : Nat} (h : k < fH G ou row l i j t) : goB G ou t l 0 = true ∧ k < wW G ou row 1 (ft G t) i j (-1) (-1) := by
  unfold fH at h
  cases hg : goB G ou t l 0
  · rw [hg, if_neg Bool.false_ne_true] at h; exact absurd h (Nat.not_lt_zero _)
  · rw [hg, if_pos rfl] at h; exact ⟨rfl, h⟩
theorem Nth_ex (W : WF G) : ∀ (m : Nat) (half node i j p q : Int) (k : Nat), itm G half node i j p q → mu G half node i j p q < m → k < wW G ou row half node i j p q → ∃ d, Nth G ou row d half node i j p q k := by
  intro m
  induction m with
  | zero => intro half node i j p q k h hm; have := (mu_in W h).1; omega
  | succ m ih =>
  intro half node i j p q k h hm hk
  have nt := wf_nt W
  have hc : ¬ cov i j p q < nd G node := fun z => by rw [wW_z W h z] at hk; exact Nat.not_lt_zero _ hk
  have kd0 := wf_kd W h.2.1 h.2.2.1
  have h2 : half ≠ 2 := by have := h.1; omega
  rw [wW_eq W h] at hk
  unfold wStep at hk
  rw [if_neg hc] at hk
  by_cases hb : half = 1 ∧ kd G node = 0
  · rw [if_pos hb] at hk
    obtain ⟨rfl, hk0⟩ := hb
    have hh := half_item h
    by_cases hl : k < bare G ou row node i j p q
    · have hm2 : mk G node ≠ 2 := fun z => by unfold bare at hl; rw [if_pos z] at hl; exact Nat.not_lt_zero _ hl
      unfold bare at hl
      rw [if_neg hm2] at hl
      obtain ⟨d, hd⟩ := ih 0 node i j p q k hh.1 (by omega) hl
      exact ⟨.neg d, rfl, hk0, hm2, hl, hd⟩
    · unfold wAbove at hk
      by_cases hm1 : mk G node = 1
      · rw [if_pos hm1, Nat.add_zero] at hk
        exact absurd hk hl
      rw [if_neg hm1] at hk
      have hk' : k - bare G ou row node i j p q < sI (fT G ou row node i j p q) 0 (nT G - 1) := by
        have : k < bare G ou row node i j p q + sI (fT G ou row node i j p q) 0 (nT G - 1) := hk
        omega
      obtain ⟨t, k1, P1⟩ := Pick_ex hk'
      obtain ⟨hg, hk1⟩ := fT_pos P1.2.2.2
      obtain ⟨a, k2, P2⟩ := Pick_ex hk1
      obtain ⟨c, k3, P3⟩ := Pick_ex (show k2 < sI (fC G ou row node i j p q t a) (if p = -1 then a else q) j from P2.2.2.2)
      obtain ⟨r1, r2, r3⟩ := fC_pos P3.2.2.2
      have hs := (goB_spec hg).1
      have t0 := P1.1
      have t1 : t < nT G := by have := P1.2.1; omega
      obtain ⟨f1, f2, f3, -⟩ := around_items W h t0 t1 hs P2.1 P2.2.1 P3.1 P3.2.1
      obtain ⟨u1, u2⟩ := around_mu W h t0 t1 hs f1 f2 f3 r1.1 r1.2
      obtain ⟨o, ho⟩ := ih 1 (ft G t) i j a c _ f2 (by omega) r2
      obtain ⟨d, hd⟩ := ih 0 node a c p q _ f1 (by omega) r3
      exact ⟨.sub (.intMul t o) d, rfl, hk0, hm1, by omega, t, k1, a, k2, c, k3, P1, P2, P3, Or.inl ⟨rfl, rfl, ho⟩, hd⟩
  · rw [if_neg hb] at hk
    unfold wBelow at hk
    by_cases k1 : kd G node = 1
    · rw [if_pos k1] at hk
      split at hk
      · exact ⟨.zero, h2, Or.inl k1, by omega⟩
      · omega
    rw [if_neg k1] at hk
    by_cases k2 : kd G node = 2
    · rw [if_pos k2] at hk
      split at hk
      · exact ⟨.zero, h2, Or.inr (Or.inl k2), by omega⟩
      · omega
    rw [if_neg k2] at hk
    by_cases k3 : kd G node = 3
    · rw [if_pos k3] at hk
      split at hk
      · exact ⟨.zero, h2, Or.inr (Or.inr k3), by omega⟩
      · omega
    rw [if_neg k3] at hk
    by_cases k4 : kd G node = 4
    · rw [if_pos k4] at hk
      obtain ⟨t, k', P⟩ := Pick_ex (show k < sI (fH G ou row (lb G node) i j) 0 (nT G - 1) from hk)
      obtain ⟨hg, hk'⟩ := fH_pos P.2.2.2
      obtain ⟨f1, f2, -⟩ := place_item W h k4 P.1 (show t < nT G by have := P.2.1; omega) (goB_spec hg).1
      obtain ⟨d, hd⟩ := ih 1 (ft G t) i j (-1) (-1) k' f1 (by omega) hk'
      exact ⟨.intMul t d, Or.inr ⟨h2, k4, k', P, hd⟩⟩
    rw [if_neg k4] at hk
    have k0 : kd G node = 0 := by omega
    have hh0 : half = 0 := by have := h.1; omega
    subst hh0
    by_cases c2' : c2 G node = -1
    · rw [if_pos c2'] at hk
      obtain ⟨f1, f2⟩ := unary_item W h k0 c2'
      obtain ⟨d, hd⟩ := ih 1 (c1 G node) i j p q k f1 (by omega) hk
      exact ⟨.natMul 0 d, rfl, k0, c2', hd⟩
    · rw [if_neg c2'] at hk
      obtain ⟨x, k', P⟩ := Pick_ex (show k < sI (fS G ou row node i j p q) i j from hk)
      obtain ⟨r1, r2, r3⟩ := fS_pos P.2.2.2
      obtain ⟨f1, f2, f3⟩ := split_items W h k0 c2' P.1 P.2.1 r1.1 r1.2.1
      obtain ⟨u1, u2⟩ := split_mu W h k0 c2' f1 f2 f3 r1.2.2.1 r1.2.2.2
      obtain ⟨d1, hd1⟩ := ih _ _ _ _ _ _ _ f1 (by omega) r2
      obtain ⟨d2, hd2⟩ := ih _ _ _ _ _ _ _ f2 (by omega) r3
      exact ⟨.add d1 d2, rfl, k0, c2', x, k', P, hd1, hd2⟩
end
