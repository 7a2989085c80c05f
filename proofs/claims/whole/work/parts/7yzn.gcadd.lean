/-! grammar: what the class's rows become when a node is added -/
def Pth (U : Int → Int) (b : Int) : Int → List Int → Prop
  | c, [] => c = b ∧ U c = -1
  | c, a :: A => b ≤ a ∧ a < c ∧ U c = a ∧ Pth U b a A
def Eff (Q : Int) (h h' : Hp) (N c : Int) (P : List Int) (a s : Nat) : Prop := ∀ n, 0 ≤ n → n < N →
  (h' (Q + 2) n = h (Q + 2) n ∧ h' (Q + 3) n = h (Q + 3) n ∧ h' (Q + 4) n = h (Q + 4) n ∧ h' (Q + 5) n = h (Q + 5) n ∧ h' (Q + 8) n = h (Q + 8) n) ∧
  (n ≠ c → h' (Q + 6) n = h (Q + 6) n ∧ h' (Q + 7) n = h (Q + 7) n) ∧
  (n = c → (h (Q + 6) n = -1 → h' (Q + 6) n = N ∧ h' (Q + 7) n = h (Q + 7) n) ∧ (h (Q + 6) n ≠ -1 → h' (Q + 6) n = h (Q + 6) n ∧ h' (Q + 7) n = N)) ∧
  h' (Q + 9) n = h (Q + 9) n + (if n ∈ P then (a : Int) else 0) ∧ h' (Q + 10) n = (if n ∈ P ∧ 1 ≤ s then 1 else h (Q + 10) n)
def CFr (Q T : Int) (h h' : Hp) : Prop := ∀ c s, (c ≠ 7 ∨ (s ≠ 0 ∧ s ≠ 1 ∧ s ≠ 4 ∧ s ≠ 5)) → (c ≠ Q ∨ (s ≠ 1 ∧ s ≠ 5)) → (c ≠ Q + 1 ∨ s ≠ T) → (c < Q + 2 ∨ Q + 10 < c) → h' c s = h c s
def CB (h : Hp) (Q T N : Int) : Prop := (0 ≤ T ∧ T ≤ 8) ∧ h Q 0 = T ∧ h Q 1 = N ∧ (0 ≤ N ∧ N ≤ 40) ∧ h (Q + 1) T = N ∧
  ∀ n, 0 ≤ n → n < N → (h (Q + 8) n = -1 ∨ (0 ≤ h (Q + 8) n ∧ h (Q + 8) n < n)) ∧ (0 ≤ h (Q + 9) n ∧ h (Q + 9) n ≤ N) ∧ (0 ≤ h (Q + 2) n ∧ h (Q + 2) n < T ∧ 0 ≤ h (Q + 1) (h (Q + 2) n) ∧ h (Q + 1) (h (Q + 2) n) ≤ n)
def LB (h : Hp) (Q N : Int) : Prop := (0 ≤ h Q 5 ∧ h Q 5 < 67108864) ∧ ∀ l, 0 ≤ l → l < 26 → (bit (h Q 5) l = 1 ↔ ∃ n, 0 ≤ n ∧ n < N ∧ h (Q + 3) n = 1 ∧ h (Q + 4) n = l)
/-- a new row -/
def Nw (h : Hp) (Q T N k l m up : Int) (a s : Nat) : Prop := h (Q + 2) N = T - 1 ∧ h (Q + 3) N = k ∧ h (Q + 4) N = l ∧ h (Q + 5) N = m ∧ h (Q + 6) N = -1 ∧ h (Q + 7) N = -1 ∧ h (Q + 8) N = up ∧ h (Q + 9) N = a ∧ h (Q + 10) N = s
def AddR (Q T : Int) (h h' : Hp) (N c : Int) (P : List Int) (k l : Int) (a s : Nat) : Prop := Nw h' Q T N k l 0 c a s ∧ Eff Q h h' N c P a s ∧ CFr Q T h h' ∧ CB h' Q T (N + 1) ∧ LB h' Q (N + 1) ∧ ∀ i, h' 7 i = h 7 i
theorem Pth_eq {U U' : Int → Int} {b : Int} : ∀ (A : List Int) (c : Int), Pth U b c A → (∀ x, b ≤ x → x ≤ c → U' x = U x) → Pth U' b c A
  | [], c, h, q => by
    obtain ⟨h1, h2⟩ := h
    exact ⟨h1, by rw [q c (by omega) (Int.le_refl _)]; exact h2⟩
  | a :: A, c, h, q => by
    obtain ⟨h1, h2, h3, h4⟩ := h
    exact ⟨h1, h2, by rw [q c (by omega) (Int.le_refl _)]; exact h3, Pth_eq A a h4 (fun x x0 x1 => q x x0 (by omega))⟩
theorem Pth_in {U : Int → Int} {b : Int} : ∀ (A : List Int) (c : Int), Pth U b c A → b ∈ c :: A ∧ ∀ y ∈ c :: A, b ≤ y ∧ y ≤ c
  | [], c, h => by
    obtain ⟨h1, h2⟩ := h
    refine ⟨by rw [h1]; exact List.mem_cons_self, fun y hy => ?_⟩
    have : y = c := by simpa using hy
    omega
  | a :: A, c, h => by
    obtain ⟨h1, h2, h3, h4⟩ := h
    have i := Pth_in A a h4
    refine ⟨List.mem_cons_of_mem _ i.1, fun y hy => ?_⟩
    rcases List.mem_cons.mp hy with z | z
    · omega
    · have := i.2 y z; omega
theorem anB_mem {U : Int → Int} {b : Int} (b0 : 0 ≤ b) : ∀ (A : List Int) (c : Int) (n : Nat) (y : Int), Pth U b c A → c - b + 1 ≤ n → (anB U n c y = true ↔ y ∈ c :: A)
  | [], c, n, y, h, hn => by
    obtain ⟨h1, h2⟩ := h
    obtain ⟨m, rfl⟩ : ∃ m, n = m + 1 := ⟨n - 1, by omega⟩
    unfold anB
    rw [if_neg (by omega)]
    by_cases z : c = y
    · rw [if_pos z, z]
      exact ⟨fun _ => List.mem_cons_self, fun _ => rfl⟩
    · rw [if_neg z, h2]
      have : anB U m (-1) y = false := by
        cases m with
        | zero => rfl
        | succ m => unfold anB; rw [if_pos rfl]
      rw [this]
      refine ⟨fun w => absurd w (by decide), fun w => ?_⟩
      have : y = c := by simpa using w
      exact absurd this.symm z
  | a :: A, c, n, y, h, hn => by
    obtain ⟨h1, h2, h3, h4⟩ := h
    obtain ⟨m, rfl⟩ : ∃ m, n = m + 1 := ⟨n - 1, by omega⟩
    unfold anB
    rw [if_neg (by omega)]
    by_cases z : c = y
    · rw [if_pos z, z]
      exact ⟨fun _ => List.mem_cons_self, fun _ => rfl⟩
    · rw [if_neg z, h3, anB_mem b0 A a m y h4 (by omega)]
      refine ⟨fun w => List.mem_cons_of_mem _ w, fun w => ?_⟩
      rcases List.mem_cons.mp w with q | q
      · exact absurd q.symm z
      · exact q
section
variable {h h' h'' : Hp} {Q T N k l c b : Int} {P : List Int}
theorem nwH_no {up x s : Int} (h1 : x ≠ Q ∨ s ≠ 1) (h2 : x ≠ Q + 1 ∨ s ≠ T) (h3 : x < Q + 2 ∨ Q + 10 < x ∨ s ≠ N) : nwH h Q T N k l up x s = h x s := by
  unfold nwH
  rw [hput_no (by omega), hput_no (by omega), hput_no (by omega), hput_no (by omega), hput_no (by omega), hput_no (by omega), hput_no (by omega), hput_no (by omega), hput_no (by omega), hput_no (by omega), hput_no (by omega)]
theorem nwH_at {up : Int} : nwH h Q T N k l up Q 1 = N + 1 ∧ nwH h Q T N k l up (Q + 1) T = N + 1 ∧ Nw (nwH h Q T N k l up) Q T N k l 0 up 0 0 := by
  unfold Nw nwH
  refine ⟨?_, ?_, ?_, ?_, ?_, ?_, ?_, ?_, ?_, ?_, ?_⟩
  · rw [hput_no (by omega), hput_no (by omega), hput_no (by omega), hput_no (by omega), hput_no (by omega), hput_no (by omega), hput_no (by omega), hput_no (by omega), hput_no (by omega), hput_no (by omega), hput_eq]
  · rw [hput_no (by omega), hput_no (by omega), hput_no (by omega), hput_no (by omega), hput_no (by omega), hput_no (by omega), hput_no (by omega), hput_no (by omega), hput_no (by omega), hput_eq]
  · rw [hput_no (by omega), hput_no (by omega), hput_no (by omega), hput_no (by omega), hput_no (by omega), hput_no (by omega), hput_no (by omega), hput_no (by omega), hput_eq]
  · rw [hput_no (by omega), hput_no (by omega), hput_no (by omega), hput_no (by omega), hput_no (by omega), hput_no (by omega), hput_no (by omega), hput_eq]
  · rw [hput_no (by omega), hput_no (by omega), hput_no (by omega), hput_no (by omega), hput_no (by omega), hput_no (by omega), hput_eq]
  · rw [hput_no (by omega), hput_no (by omega), hput_no (by omega), hput_no (by omega), hput_no (by omega), hput_eq]
  · rw [hput_no (by omega), hput_no (by omega), hput_no (by omega), hput_no (by omega), hput_eq]
  · rw [hput_no (by omega), hput_no (by omega), hput_no (by omega), hput_eq]
  · rw [hput_no (by omega), hput_no (by omega), hput_eq]
  · rw [hput_no (by omega), hput_eq]; rfl
  · rw [hput_eq]; rfl
theorem lkH_no {f : Hp} {up x s : Int} (h1 : (x ≠ Q + 6 ∧ x ≠ Q + 7) ∨ s ≠ up) : lkH f Q up N x s = f x s := by
  unfold lkH
  split
  · rfl
  · split
    · rw [hput_no (by omega)]
    · rw [hput_no (by omega)]
theorem lkH_at {f : Hp} {up : Int} (u : up ≠ -1) : (f (Q + 6) up = -1 → lkH f Q up N (Q + 6) up = N ∧ lkH f Q up N (Q + 7) up = f (Q + 7) up) ∧ (f (Q + 6) up ≠ -1 → lkH f Q up N (Q + 6) up = f (Q + 6) up ∧ lkH f Q up N (Q + 7) up = N) := by
  unfold lkH
  rw [if_neg u]
  refine ⟨fun z => ?_, fun z => ?_⟩
  · rw [if_pos z]
    exact ⟨hput_eq .., hput_no (by omega)⟩
  · rw [if_neg z]
    exact ⟨hput_no (by omega), hput_eq ..⟩
/-- a node is added, of no letters and no foot -/
theorem add_0 (O : GrO Q) (G : GShp h Q) (B : CB h Q T N) (T1 : 1 ≤ T) (hb : h (Q + 1) (T - 1) = b) (b0 : 0 ≤ b) (b1 : b ≤ N) (N1 : N < 40) (hc : c = -1 ∨ (0 ≤ c ∧ c < N)) : ∃ h', Gr_addNode Q k l c h = some (N, h') ∧ Nw h' Q T N k l 0 c 0 0 ∧ Eff Q h h' N c P 0 0 ∧ CFr Q T h h' ∧ CB h' Q T (N + 1) ∧ (∀ i, h' 7 i = h 7 i) ∧ h' Q 5 = h Q 5 := by
  obtain ⟨t, x0, x1, nn, xT, rows⟩ := B
  have Q0 : 22 ≤ Q := by rcases O with rfl | rfl | rfl | rfl <;> decide
  obtain ⟨a1, a2, aw⟩ := nwH_at (h := h) (Q := Q) (T := T) (N := N) (k := k) (l := l) (up := c)
  refine ⟨_, addNode_ok O G x0 x1 (by omega) t.2 nn.1 N1 hc, ?_, ?_, ?_, ?_, ?_, ?_⟩
  · unfold Nw at aw ⊢
    have e : ∀ j, lkH (nwH h Q T N k l c) Q c N (Q + j) N = nwH h Q T N k l c (Q + j) N := fun j => lkH_no (Or.inr (by omega))
    rw [e, e, e, e, e, e, e, e, e]
    exact aw
  · intro n n0 n1
    have en : ∀ j, 2 ≤ j → nwH h Q T N k l c (Q + j) n = h (Q + j) n := fun j hj => nwH_no (by omega) (by omega) (by omega)
    refine ⟨⟨?_, ?_, ?_, ?_, ?_⟩, fun z => ⟨?_, ?_⟩, fun z => ?_, ?_, ?_⟩
    · rw [lkH_no (Or.inl (by omega)), en 2 (by decide)]
    · rw [lkH_no (Or.inl (by omega)), en 3 (by decide)]
    · rw [lkH_no (Or.inl (by omega)), en 4 (by decide)]
    · rw [lkH_no (Or.inl (by omega)), en 5 (by decide)]
    · rw [lkH_no (Or.inl (by omega)), en 8 (by decide)]
    · rw [lkH_no (Or.inr z), en 6 (by decide)]
    · rw [lkH_no (Or.inr z), en 7 (by decide)]
    · have q := lkH_at (f := nwH h Q T N k l c) (Q := Q) (N := N) (up := c) (by omega)
      rw [z] at en ⊢
      rw [en 6 (by decide), en 7 (by decide)] at q
      exact q
    · rw [lkH_no (Or.inl (by omega)), en 9 (by decide)]
      split <;> simp
    · rw [lkH_no (Or.inl (by omega)), en 10 (by decide), if_neg (by omega)]
  · intro x s h1 h2 h3 h4
    rw [lkH_no (Or.inl (by omega)), nwH_no (by omega) h3 (by omega)]
  · have eQ : ∀ s, s ≠ 1 → lkH (nwH h Q T N k l c) Q c N Q s = h Q s := fun s hs => by
      rw [lkH_no (Or.inl (by omega)), nwH_no (Or.inr hs) (Or.inl (by omega)) (Or.inl (by omega))]
    have e1 : ∀ s, s ≠ T → lkH (nwH h Q T N k l c) Q c N (Q + 1) s = h (Q + 1) s := fun s hs => by
      rw [lkH_no (Or.inl (by omega)), nwH_no (Or.inl (by omega)) (Or.inr hs) (Or.inl (by omega))]
    have ew : ∀ j, j ≠ 6 → j ≠ 7 → lkH (nwH h Q T N k l c) Q c N (Q + j) N = nwH h Q T N k l c (Q + j) N := fun j _ _ => lkH_no (Or.inr (by omega))
    refine ⟨t, by rw [eQ 0 (by decide)]; exact x0, by rw [lkH_no (Or.inl (by omega))]; exact a1, by omega, by rw [lkH_no (Or.inl (by omega))]; exact a2, fun n n0 n1 => ?_⟩
    by_cases hn : n = N
    · rw [hn, ew 8 (by decide) (by decide), ew 9 (by decide) (by decide), ew 2 (by decide) (by decide), aw.2.2.2.2.2.2.1, aw.2.2.2.2.2.2.2.1, aw.1, e1 (T - 1) (by omega), hb]
      refine ⟨by omega, by omega, by omega⟩
    · have en : ∀ j, 2 ≤ j → j ≠ 6 → j ≠ 7 → lkH (nwH h Q T N k l c) Q c N (Q + j) n = h (Q + j) n := fun j hj _ _ => by
        rw [lkH_no (Or.inl (by omega)), nwH_no (by omega) (by omega) (by omega)]
      have r := rows n n0 (by omega)
      rw [en 8 (by decide) (by decide) (by decide), en 9 (by decide) (by decide) (by decide), en 2 (by decide) (by decide) (by decide), e1 (h (Q + 2) n) (by omega)]
      exact ⟨r.1, by omega, r.2.2⟩
  · intro i
    rw [lkH_no (Or.inl (by omega)), nwH_no (by omega) (by omega) (by omega)]
  · rw [lkH_no (Or.inl (by omega)), nwH_no (Or.inr (by decide)) (by omega) (by omega)]
theorem LB_no (L : LB h Q N) (e5 : h' Q 5 = h Q 5) (ek : ∀ n, 0 ≤ n → n < N → h' (Q + 3) n = h (Q + 3) n ∧ h' (Q + 4) n = h (Q + 4) n) (kN : h' (Q + 3) N ≠ 1) : LB h' Q (N + 1) := by
  refine ⟨by rw [e5]; exact L.1, fun l l0 l1 => ?_⟩
  rw [e5, L.2 l l0 l1]
  constructor
  · rintro ⟨n, n0, n1, z1, z2⟩
    exact ⟨n, n0, by omega, by rw [(ek n n0 n1).1]; exact z1, by rw [(ek n n0 n1).2]; exact z2⟩
  · rintro ⟨n, n0, n1, z1, z2⟩
    have hn : n ≠ N := fun z => kN (by rw [← z]; exact z1)
    exact ⟨n, n0, by omega, by rw [← (ek n n0 (by omega)).1]; exact z1, by rw [← (ek n n0 (by omega)).2]; exact z2⟩
theorem add_n (O : GrO Q) (G : GShp h Q) (B : CB h Q T N) (L : LB h Q N) (T1 : 1 ≤ T) (hb : h (Q + 1) (T - 1) = b) (b0 : 0 ≤ b) (b1 : b ≤ N) (N1 : N < 40) (hc : c = -1 ∨ (0 ≤ c ∧ c < N)) (hk : k ≠ 1) : ∃ h', Gr_addNode Q k l c h = some (N, h') ∧ AddR Q T h h' N c P k l 0 0 := by
  obtain ⟨h', e, w, F, fr, cb, e7, e5⟩ := add_0 (k := k) (l := l) (P := P) O G B T1 hb b0 b1 N1 hc
  exact ⟨h', e, w, F, fr, cb, LB_no L e5 (fun n n0 n1 => ⟨(F n n0 n1).1.2.1, (F n n0 n1).1.2.2.1⟩) (by rw [w.2.1]; exact hk), e7⟩
/-- a path, with the new node before it -/
theorem path_new {A : List Int} {U : Int → Int} (B : CB h Q T N) (Pc : Pth (h (Q + 8)) b c A) (b0 : 0 ≤ b) (c1 : c < N) (eN : U N = c) (e8 : ∀ n, 0 ≤ n → n < N → U n = h (Q + 8) n) : Pth U b N (c :: A) := by
  have := (Pth_in A c Pc).2 c List.mem_cons_self
  exact ⟨this.1, c1, eN, Pth_eq A c Pc (fun x x0 x1 => e8 x (by omega) (by omega))⟩
theorem add_l {A : List Int} (O : GrO Q) (G : GShp h Q) (B : CB h Q T N) (L : LB h Q N) (T1 : 1 ≤ T) (hb : h (Q + 1) (T - 1) = b) (b0 : 0 ≤ b) (b1 : b ≤ N) (N1 : N < 40) (N2 : N < b + 12) (c1 : c < N) (Pc : Pth (h (Q + 8)) b c A) (l0 : 0 ≤ l) (l1 : l < 26) : ∃ h', Gr_addLetter Q l c h = some h' ∧ AddR Q T h h' N c (c :: A) 1 l 1 0 := by
  have cb := (Pth_in A c Pc).2 c List.mem_cons_self
  obtain ⟨h1, e, w, F, fr, B1, e7, e5⟩ := add_0 (k := 1) (l := l) (P := c :: A) O G B T1 hb b0 b1 N1 (Or.inr ⟨by omega, c1⟩)
  have gk := (GrO_k O).1
  have f : ∀ x s, (x ≠ Q ∨ s ≠ 5) → (hput h1 Q 5 (i_or (h1 Q 5) (i_shl 1 l))) x s = h1 x s := fun x s z => hput_no z
  have G1 : GShp h1 Q := by
    have e : ∀ s, s ≠ 1 → s ≠ 5 → h1 Q s = h Q s := fun s hs hs' => fr Q s (Or.inl (by rcases O with rfl | rfl | rfl | rfl <;> decide)) (Or.inr ⟨hs, hs'⟩) (Or.inl (by omega)) (Or.inl (by omega))
    unfold GShp at G ⊢
    rw [e 6 (by decide) (by decide), e 7 (by decide) (by decide), e 8 (by decide) (by decide), e 9 (by decide) (by decide), e 10 (by decide) (by decide), e 11 (by decide) (by decide), e 12 (by decide) (by decide), e 13 (by decide) (by decide), e 14 (by decide) (by decide), e 15 (by decide) (by decide), e 16 (by decide) (by decide), e 17 (by decide) (by decide), e 18 (by decide) (by decide)]
    exact G
  have G2 : GShp (hput h1 Q 5 (i_or (h1 Q 5) (i_shl 1 l))) Q := by
    have e : ∀ s, s ≠ 5 → (hput h1 Q 5 (i_or (h1 Q 5) (i_shl 1 l))) Q s = h1 Q s := fun s hs => f Q s (Or.inr hs)
    unfold GShp at G1 ⊢
    rw [e 6 (by decide), e 7 (by decide), e 8 (by decide), e 9 (by decide), e 10 (by decide), e 11 (by decide), e 12 (by decide), e 13 (by decide), e 14 (by decide), e 15 (by decide), e 16 (by decide), e 17 (by decide), e 18 (by decide)]
    exact G1
  have nq : ∀ j, 1 ≤ j → ∀ s, (hput h1 Q 5 (i_or (h1 Q 5) (i_shl 1 l))) (Q + j) s = h1 (Q + j) s := fun j hj s => f _ _ (Or.inl (by omega))
  obtain ⟨r, er, r1, r2⟩ := letter_up (f := hput h1 Q 5 (i_or (h1 Q 5) (i_shl 1 l))) (N := N + 1) (x := N) (U := h1 (Q + 8)) O G2 (by omega) (fun x x0 x1 => (B1.2.2.2.2.2 x x0 x1).1) (fun y _ _ => nq 8 (by decide) y) (fun y y0 y1 => by rw [nq 9 (by decide)]; have := (B1.2.2.2.2.2 y y0 y1).2.1; omega) (by omega) (by omega)
  have Pn := path_new (U := h1 (Q + 8)) B Pc b0 c1 w.2.2.2.2.2.2.1 (fun n n0 n1 => (F n n0 n1).1.2.2.2.2)
  have an : ∀ y, anB (h1 (Q + 8)) 12 N y = true ↔ y ∈ N :: c :: A := fun y => anB_mem b0 (c :: A) N 12 y Pn (by omega)
  have r9 : ∀ y, r (Q + 9) y = h1 (Q + 9) y + (if y ∈ N :: c :: A then 1 else 0) := fun y => by
    rw [r2 y, nq 9 (by decide)]
    by_cases z : y ∈ N :: c :: A
    · rw [if_pos z, if_pos ((an y).mpr z)]
    · rw [if_neg z, if_neg (fun w => z ((an y).mp w))]
  have rj : ∀ j, 1 ≤ j → j ≠ 9 → ∀ s, r (Q + j) s = h1 (Q + j) s := fun j hj h9 s => by rw [r1 _ _ (by omega), nq j hj]
  refine ⟨r, ?_, ?_, ?_, ?_, ?_, ?_, ?_⟩
  · unfold Gr_addLetter
    rw [if_pos gk, e, ob_some]
    simp only
    rw [er, ob_some]
  · obtain ⟨w2, w3, w4, w5, w6, w7, w8, w9, w10⟩ := w
    refine ⟨by rw [rj 2 (by decide) (by decide)]; exact w2, by rw [rj 3 (by decide) (by decide)]; exact w3, by rw [rj 4 (by decide) (by decide)]; exact w4, by rw [rj 5 (by decide) (by decide)]; exact w5, by rw [rj 6 (by decide) (by decide)]; exact w6, by rw [rj 7 (by decide) (by decide)]; exact w7, by rw [rj 8 (by decide) (by decide)]; exact w8, ?_, by rw [rj 10 (by decide) (by decide)]; exact w10⟩
    rw [r9, w9, if_pos List.mem_cons_self]
    rfl
  · intro n n0 n1
    obtain ⟨q1, q2, q3, q4, q5⟩ := F n n0 n1
    have hN : n ∈ N :: c :: A ↔ n ∈ c :: A := ⟨fun z => (List.mem_cons.mp z).resolve_left (by omega), fun z => List.mem_cons_of_mem _ z⟩
    rw [rj 2 (by decide) (by decide), rj 3 (by decide) (by decide), rj 4 (by decide) (by decide), rj 5 (by decide) (by decide), rj 8 (by decide) (by decide), rj 6 (by decide) (by decide), rj 7 (by decide) (by decide), rj 10 (by decide) (by decide)]
    refine ⟨q1, q2, q3, ?_, ?_⟩
    · rw [r9, q4]
      by_cases z : n ∈ c :: A
      · rw [if_pos (hN.mpr z), if_pos z, if_pos z]; simp
      · rw [if_neg (fun v => z (hN.mp v)), if_neg z, if_neg z]; simp
    · rw [q5]
  · intro x s h1' h2 h3 h4
    rw [r1 x s (by omega), f x s (by omega), fr x s h1' h2 h3 h4]
  · obtain ⟨t, x0, x1, nn, xT, rows⟩ := B1
    refine ⟨t, by rw [r1 Q 0 (by omega), f Q 0 (Or.inr (by decide))]; exact x0, by rw [r1 Q 1 (by omega), f Q 1 (Or.inr (by decide))]; exact x1, nn, by rw [rj 1 (by decide) (by decide)]; exact xT, fun n n0 n1 => ?_⟩
    have q := rows n n0 n1
    rw [rj 8 (by decide) (by decide), rj 2 (by decide) (by decide), rj 1 (by decide) (by decide), r9]
    refine ⟨q.1, ?_, q.2.2⟩
    by_cases hn : n = N
    · rw [hn, w.2.2.2.2.2.2.2.1]
      split <;> (simp; omega)
    · have o := (B.2.2.2.2.2 n n0 (by omega)).2.1
      have o' := (F n n0 (by omega)).2.2.2.1
      have : h1 (Q + 9) n = h (Q + 9) n := by
        rw [o']; split <;> simp
      rw [this]
      split <;> omega
  · have q5 : r Q 5 = i_or (h Q 5) (i_shl 1 l) := by rw [r1 Q 5 (by omega), hput_eq, e5]
    obtain ⟨L1, L2⟩ := L
    refine ⟨?_, fun x x0 x1 => ?_⟩
    · rw [q5]
      have := or1_in (x := h Q 5) (t := l) (n := 26) L1.1 (by decide) (by decide) (by rw [show (((2 ^ (26 : Int).toNat : Nat)) : Int) = 67108864 by decide]; exact L1.2) l0 l1
      rw [show (((2 ^ (26 : Int).toNat : Nat)) : Int) = 67108864 by decide] at this
      exact this
    · rw [q5, bit_or1 L1.1 (by omega) l0 (by omega) x0 (by omega)]
      constructor
      · intro z
        by_cases hx : x = l
        · exact ⟨N, by omega, by omega, by rw [rj 3 (by decide) (by decide)]; exact w.2.1, by rw [rj 4 (by decide) (by decide), w.2.2.1, hx]⟩
        · rw [if_neg hx] at z
          obtain ⟨n, n0, n1, z1, z2⟩ := (L2 x x0 x1).mp z
          exact ⟨n, n0, by omega, by rw [rj 3 (by decide) (by decide), (F n n0 n1).1.2.1]; exact z1, by rw [rj 4 (by decide) (by decide), (F n n0 n1).1.2.2.1]; exact z2⟩
      · rintro ⟨n, n0, n1, z1, z2⟩
        by_cases hx : x = l
        · rw [if_pos hx]
        · rw [if_neg hx]
          rw [rj 3 (by decide) (by decide)] at z1
          rw [rj 4 (by decide) (by decide)] at z2
          have hn : n ≠ N := fun z => hx (by rw [← z2, z]; exact w.2.2.1)
          exact (L2 x x0 x1).mpr ⟨n, n0, by omega, by rw [← (F n n0 (by omega)).1.2.1]; exact z1, by rw [← (F n n0 (by omega)).1.2.2.1]; exact z2⟩
  · intro i
    rw [r1 7 i (by rcases O with rfl | rfl | rfl | rfl <;> decide), f 7 i (Or.inl (by rcases O with rfl | rfl | rfl | rfl <;> decide))]
    exact e7 i
theorem add_f {A : List Int} (O : GrO Q) (G : GShp h Q) (B : CB h Q T N) (L : LB h Q N) (T1 : 1 ≤ T) (hb : h (Q + 1) (T - 1) = b) (b0 : 0 ≤ b) (b1 : b ≤ N) (N1 : N < 40) (N2 : N < b + 12) (c1 : c < N) (Pc : Pth (h (Q + 8)) b c A) : ∃ h', Gr_addFoot Q l c h = some h' ∧ AddR Q T h h' N c (c :: A) 3 l 0 1 := by
  have cb := (Pth_in A c Pc).2 c List.mem_cons_self
  obtain ⟨h1, e, w, F, fr, B1, e7, e5⟩ := add_0 (k := 3) (l := l) (P := c :: A) O G B T1 hb b0 b1 N1 (Or.inr ⟨by omega, c1⟩)
  have gk := (GrO_k O).1
  have G1 : GShp h1 Q := by
    have e : ∀ s, s ≠ 1 → s ≠ 5 → h1 Q s = h Q s := fun s hs hs' => fr Q s (Or.inl (by rcases O with rfl | rfl | rfl | rfl <;> decide)) (Or.inr ⟨hs, hs'⟩) (Or.inl (by omega)) (Or.inl (by omega))
    unfold GShp at G ⊢
    rw [e 6 (by decide) (by decide), e 7 (by decide) (by decide), e 8 (by decide) (by decide), e 9 (by decide) (by decide), e 10 (by decide) (by decide), e 11 (by decide) (by decide), e 12 (by decide) (by decide), e 13 (by decide) (by decide), e 14 (by decide) (by decide), e 15 (by decide) (by decide), e 16 (by decide) (by decide), e 17 (by decide) (by decide), e 18 (by decide) (by decide)]
    exact G
  obtain ⟨r, er, r1, r2⟩ := foot_up (f := h1) (N := N + 1) (x := N) (U := h1 (Q + 8)) O G1 (by omega) (fun x x0 x1 => (B1.2.2.2.2.2 x x0 x1).1) (fun y _ _ => rfl) (by omega) (by omega)
  have Pn := path_new (U := h1 (Q + 8)) B Pc b0 c1 w.2.2.2.2.2.2.1 (fun n n0 n1 => (F n n0 n1).1.2.2.2.2)
  have an : ∀ y, anB (h1 (Q + 8)) 12 N y = true ↔ y ∈ N :: c :: A := fun y => anB_mem b0 (c :: A) N 12 y Pn (by omega)
  have r10 : ∀ y, r (Q + 10) y = if y ∈ N :: c :: A then 1 else h1 (Q + 10) y := fun y => by
    rw [r2 y]
    by_cases z : y ∈ N :: c :: A
    · rw [if_pos z, if_pos ((an y).mpr z)]
    · rw [if_neg z, if_neg (fun w => z ((an y).mp w))]
  have rj : ∀ j, j ≠ 10 → ∀ s, r (Q + j) s = h1 (Q + j) s := fun j h9 s => r1 _ _ (by omega)
  refine ⟨r, ?_, ?_, ?_, ?_, ?_, ?_, ?_⟩
  · unfold Gr_addFoot
    rw [if_pos gk, e, ob_some]
    simp only
    rw [er, ob_some]
  · obtain ⟨w2, w3, w4, w5, w6, w7, w8, w9, w10⟩ := w
    refine ⟨by rw [rj 2 (by decide)]; exact w2, by rw [rj 3 (by decide)]; exact w3, by rw [rj 4 (by decide)]; exact w4, by rw [rj 5 (by decide)]; exact w5, by rw [rj 6 (by decide)]; exact w6, by rw [rj 7 (by decide)]; exact w7, by rw [rj 8 (by decide)]; exact w8, by rw [rj 9 (by decide)]; exact w9, ?_⟩
    rw [r10, if_pos List.mem_cons_self]
    rfl
  · intro n n0 n1
    obtain ⟨q1, q2, q3, q4, q5⟩ := F n n0 n1
    have hN : n ∈ N :: c :: A ↔ n ∈ c :: A := ⟨fun z => (List.mem_cons.mp z).resolve_left (by omega), fun z => List.mem_cons_of_mem _ z⟩
    rw [rj 2 (by decide), rj 3 (by decide), rj 4 (by decide), rj 5 (by decide), rj 8 (by decide), rj 6 (by decide), rj 7 (by decide), rj 9 (by decide)]
    refine ⟨q1, q2, q3, q4, ?_⟩
    rw [r10, q5]
    by_cases z : n ∈ c :: A
    · rw [if_pos (hN.mpr z), if_pos ⟨z, Nat.le_refl 1⟩]
    · rw [if_neg (fun v => z (hN.mp v)), if_neg (fun v => z v.1), if_neg (fun v => z v.1)]
  · intro x s h1' h2 h3 h4
    rw [r1 x s (by omega), fr x s h1' h2 h3 h4]
  · obtain ⟨t, x0, x1, nn, xT, rows⟩ := B1
    refine ⟨t, by rw [r1 Q 0 (by omega)]; exact x0, by rw [r1 Q 1 (by omega)]; exact x1, nn, by rw [rj 1 (by decide)]; exact xT, fun n n0 n1 => ?_⟩
    rw [rj 8 (by decide), rj 2 (by decide), rj 1 (by decide), rj 9 (by decide)]
    exact rows n n0 n1
  · refine LB_no L (by rw [r1 Q 5 (by omega)]; exact e5) (fun n n0 n1 => ⟨by rw [rj 3 (by decide)]; exact (F n n0 n1).1.2.1, by rw [rj 4 (by decide)]; exact (F n n0 n1).1.2.2.1⟩) (by rw [rj 3 (by decide), w.2.1]; decide)
  · intro i
    rw [r1 7 i (by rcases O with rfl | rfl | rfl | rfl <;> decide)]
    exact e7 i
end
