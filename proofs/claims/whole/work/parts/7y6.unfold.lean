/-! the class: a way is unfolded -/
def WyT (h : Hp) (w : Int) : Prop := h w 9 = w + 6 ∧ h w 10 = w + 8 ∧ h w 11 = w + 10 ∧ h w 12 = w + 11 ∧ h w 13 = w + 12 ∧ h (w + 6) 0 = w + 7 ∧ h (w + 8) 0 = w + 9
theorem WyO_k2 {w : Int} (o : WyO w) : kK (w + 6) = 0 ∧ (kK (w + 7) = 20 ∧ kL (w + 7) = 2048) ∧ kK (w + 8) = 0 ∧ (kK (w + 9) = 20 ∧ kL (w + 9) = 576) ∧ (kK (w + 10) = 21 ∧ kL (w + 10) = 576) ∧ (kK (w + 11) = 21 ∧ kL (w + 11) = 576) ∧ (kK (w + 12) = 21 ∧ kL (w + 12) = 1024) := by
  rcases o with rfl | rfl <;> decide
def XTb (h : Hp) (w : Int) (st : St) : Prop := h w 1 = (st.length : Int) ∧ (∀ s : Int, 0 ≤ s → s < (st.length : Int) → h (w + 1) s = (sEnt st s).1 ∧ h (w + 2) s = (sEnt st s).2.1 ∧ h (w + 3) s = (sEnt st s).2.2) ∧ ∀ s n : Int, 0 ≤ s → s < 48 → 0 ≤ n → n < 12 → h (w + 5) (12 * s + n) = sPut st s n
def FU (w : Int) (h h' : Hp) : Prop := ∀ c s, (c ≠ w ∨ (s ≠ 2 ∧ s ≠ 3 ∧ s < 14)) → c ≠ w + 4 → (c ≠ w + 6 ∨ s ≠ 1) → c ≠ w + 7 → (c ≠ w + 8 ∨ s ≠ 1) → c ≠ w + 9 → c ≠ w + 10 → c ≠ w + 11 → c ≠ w + 12 → h' c s = h c s
theorem FU.rf {w : Int} {h : Hp} : FU w h h := fun _ _ _ _ _ _ _ _ _ _ _ => rfl
theorem FU.tr {w : Int} {a b c : Hp} (x : FU w a b) (y : FU w b c) : FU w a c := fun i s h1 h2 h3 h4 h5 h6 h7 h8 h9 => by rw [y i s h1 h2 h3 h4 h5 h6 h7 h8 h9, x i s h1 h2 h3 h4 h5 h6 h7 h8 h9]
theorem vol_59 {c s : Int} (hv : volB c s = false) : ((c ≠ 59 ∨ (s ≠ 2 ∧ s ≠ 3 ∧ s < 14)) ∧ (c ≠ 65 ∨ s ≠ 1) ∧ (c ≠ 67 ∨ s ≠ 1)) ∧ ((c ≠ 72 ∨ (s ≠ 2 ∧ s ≠ 3 ∧ s < 14)) ∧ (c ≠ 78 ∨ s ≠ 1) ∧ (c ≠ 80 ∨ s ≠ 1)) := by
  unfold volB at hv
  simp only [Bool.or_eq_false_iff, Bool.and_eq_false_iff, beq_eq_false_iff_ne, decide_eq_false_iff_not] at hv
  omega
theorem FU.vol {w : Int} {h g : Hp} (o : WyO w) (F : FU w h g) : Vol h g := by
  intro c s hv
  have a := vol_59 hv
  rcases o with rfl | rfl
  · exact F c s a.1.1 (vol_ne hv (fun s => by unfold volB; simp)) a.1.2.1 (vol_ne hv (fun s => by unfold volB; simp)) a.1.2.2 (vol_ne hv (fun s => by unfold volB; simp)) (vol_ne hv (fun s => by unfold volB; simp)) (vol_ne hv (fun s => by unfold volB; simp)) (vol_ne hv (fun s => by unfold volB; simp))
  · exact F c s a.2.1 (vol_ne hv (fun s => by unfold volB; simp)) a.2.2.1 (vol_ne hv (fun s => by unfold volB; simp)) a.2.2.2 (vol_ne hv (fun s => by unfold volB; simp)) (vol_ne hv (fun s => by unfold volB; simp)) (vol_ne hv (fun s => by unfold volB; simp)) (vol_ne hv (fun s => by unfold volB; simp))
def UEnv (h : Hp) (w P : Int) (G : Gm) (o8 n : Int) (row : Int → Int) (st : St) : Prop := WyO w ∧ WyS h w ∧ WyT h w ∧ BX h P G o8 n row ∧ XTb h w st ∧ st.length ≤ 48
def TxU (h : Hp) (w : Int) (txt : List Int) : Prop := ByT h (w + 6) (w + 7) 2048 txt
def lbl (G : Gm) (st : St) (e : Int × Int) : Int := lb G (ft G (sEnt st e.1).1 + e.2)
def LtU (h : Hp) (w : Int) (G : Gm) (st : St) (ls : List (Int × Int)) : Prop := ByT h (w + 8) (w + 9) 576 (ls.map (lbl G st)) ∧ ∀ (i : Nat) (e : Int × Int), ls[i]? = some e → h (w + 10) i = e.1 ∧ h (w + 11) i = e.2
def NuU (h : Hp) (w : Int) (dm br dl : Nat) : Prop := h w 2 = (dm : Int) ∧ h w 3 = (br : Int) ∧ h w 15 = (dl : Int)
def StkU (h : Hp) (w : Int) : List Int → Prop
  | [] => True
  | v :: r => h (w + 12) r.length = v ∧ StkU h w r
def SkU (h : Hp) (w : Int) (stk : List Int) : Prop := h w 14 = (stk.length : Int) ∧ StkU h w stk
def HdU (h : Hp) (w : Int) (G : Gm) (st : St) (ls : List (Int × Int)) : Prop := ∀ s : Int, 0 ≤ s → s < (st.length : Int) → (h (w + 4) s = -1 ∧ ∀ i : Nat, ls[i]? ≠ some (s, fstK G (sEnt st s).1 1)) ∨ ∃ i : Nat, ls[i]? = some (s, fstK G (sEnt st s).1 1) ∧ h (w + 4) s = (i : Int)
def emit (txt T : List Int) : List Int := if txt = [] then T else txt ++ 32 :: T
theorem StkU_eq {h h' : Hp} {w : Int} : ∀ (r : List Int), (∀ i, i < (r.length : Int) → h' (w + 12) i = h (w + 12) i) → StkU h w r → StkU h' w r
  | [], _, _ => trivial
  | x :: r, e, S => by
    have l : (((x :: r).length : Nat) : Int) = r.length + 1 := by show ((r.length + 1 : Nat) : Int) = _; omega
    exact ⟨by rw [e r.length (by omega)]; exact S.1, StkU_eq r (fun i hi => e i (by omega)) S.2⟩
section
variable {h h' g : Hp} {w P o8 n : Int} {G : Gm} {row : Int → Int} {st : St}
theorem UEnv_fu (F : FU w h h') (E : UEnv h w P G o8 n row st) : UEnv h' w P G o8 n row st := by
  obtain ⟨o, S, T, B, X, l⟩ := E
  have ew : ∀ k, k ≠ 2 → k ≠ 3 → k < 14 → h' w k = h w k := fun k a b c => F w k (Or.inr ⟨a, b, c⟩) (by omega) (Or.inl (by omega)) (by omega) (Or.inl (by omega)) (by omega) (by omega) (by omega) (by omega)
  have e6 : h' (w + 6) 0 = h (w + 6) 0 := F _ _ (Or.inl (by omega)) (by omega) (Or.inr (by decide)) (by omega) (Or.inl (by omega)) (by omega) (by omega) (by omega) (by omega)
  have e8 : h' (w + 8) 0 = h (w + 8) 0 := F _ _ (Or.inl (by omega)) (by omega) (Or.inl (by omega)) (by omega) (Or.inr (by decide)) (by omega) (by omega) (by omega) (by omega)
  have ec : ∀ c s, (c = w + 1 ∨ c = w + 2 ∨ c = w + 3 ∨ c = w + 5) → h' c s = h c s := fun c s hc => F c s (Or.inl (by omega)) (by omega) (Or.inl (by omega)) (by omega) (Or.inl (by omega)) (by omega) (by omega) (by omega) (by omega)
  refine ⟨o, ?_, ?_, BX_vol (F.vol o) B, ?_, l⟩
  · unfold WyS at S ⊢
    rw [ew 4 (by decide) (by decide) (by decide), ew 5 (by decide) (by decide) (by decide), ew 6 (by decide) (by decide) (by decide), ew 7 (by decide) (by decide) (by decide), ew 8 (by decide) (by decide) (by decide)]
    exact S
  · unfold WyT at T ⊢
    rw [ew 9 (by decide) (by decide) (by decide), ew 10 (by decide) (by decide) (by decide), ew 11 (by decide) (by decide) (by decide), ew 12 (by decide) (by decide) (by decide), ew 13 (by decide) (by decide) (by decide), e6, e8]
    exact T
  · unfold XTb at X ⊢
    rw [ew 1 (by decide) (by decide) (by decide)]
    refine ⟨X.1, fun s a b => ?_, fun s n a b c d => ?_⟩
    · rw [ec (w + 1) s (Or.inl rfl), ec (w + 2) s (Or.inr (Or.inl rfl)), ec (w + 3) s (Or.inr (Or.inr (Or.inl rfl)))]
      exact X.2.1 s a b
    · rw [ec (w + 5) _ (Or.inr (Or.inr (Or.inr rfl)))]
      exact X.2.2 s n a b c d
theorem TxU_eq {txt : List Int} (e1 : h' (w + 6) 1 = h (w + 6) 1) (e2 : ∀ i, h' (w + 7) i = h (w + 7) i) (T : TxU h w txt) : TxU h' w txt := ByT_eq e1 e2 T
theorem LtU_eq {ls : List (Int × Int)} (e1 : h' (w + 8) 1 = h (w + 8) 1) (e2 : ∀ c i, (c = w + 9 ∨ c = w + 10 ∨ c = w + 11) → h' c i = h c i) (T : LtU h w G st ls) : LtU h' w G st ls :=
  ⟨ByT_eq e1 (fun i => e2 _ i (Or.inl rfl)) T.1, fun i e he => by rw [e2 _ _ (Or.inr (Or.inl rfl)), e2 _ _ (Or.inr (Or.inr rfl))]; exact T.2 i e he⟩
theorem NuU_eq {dm br dl : Nat} (e2 : h' w 2 = h w 2) (e3 : h' w 3 = h w 3) (e15 : h' w 15 = h w 15) (T : NuU h w dm br dl) : NuU h' w dm br dl := by
  unfold NuU at T ⊢
  rw [e2, e3, e15]; exact T
theorem SkU_eq {stk : List Int} (e1 : h' w 14 = h w 14) (e2 : ∀ i, h' (w + 12) i = h (w + 12) i) (T : SkU h w stk) : SkU h' w stk := ⟨by rw [e1]; exact T.1, StkU_eq stk (fun i _ => e2 i) T.2⟩
theorem HdU_eq {ls : List (Int × Int)} (e : ∀ i, h' (w + 4) i = h (w + 4) i) (T : HdU h w G st ls) : HdU h' w G st ls := by
  intro s a b
  rw [e]
  exact T s a b
/-- all of it -/
def USt (h : Hp) (w : Int) (G : Gm) (st : St) (txt : List Int) (ls : List (Int × Int)) (dm br dl : Nat) (stk : List Int) : Prop := TxU h w txt ∧ LtU h w G st ls ∧ NuU h w dm br dl ∧ SkU h w stk ∧ HdU h w G st ls
theorem pushTask_ok (E : UEnv h w P G o8 n row st) {txt : List Int} {ls : List (Int × Int)} {dm br dl : Nat} {stk : List Int} (U : USt h w G st txt ls dm br dl stk) (hl : stk.length < 1024) (v : Int) : ∃ h', Wy_pushTask w v h = some h' ∧ USt h' w G st txt ls dm br dl (v :: stk) ∧ FU w h h' := by
  obtain ⟨o, S, T, B, X, l⟩ := E
  obtain ⟨u1, u2, u3, u4, u5⟩ := U
  obtain ⟨-, -, -, -, -, -, k12⟩ := WyO_k2 o
  have k0 := (WyO_k o).1
  have e13 : h w 13 = w + 12 := T.2.2.2.2.1
  have e14 := u4.1
  unfold Wy_pushTask
  rw [if_pos k0, e14, if_neg (by omega), e13, if_pos ⟨k12.1, by omega, by rw [k12.2]; omega⟩]
  simp only
  rw [hput_ne1 (show w ≠ w + 12 by omega), e14, show w32 ((stk.length : Int) + 1) = stk.length + 1 by unfold w32; omega]
  have q : ∀ a i, (a ≠ w ∨ i ≠ 14) → a ≠ w + 12 → hput (hput h (w + 12) (stk.length : Int) v) w 14 ((stk.length : Int) + 1) a i = h a i := by
    intro a i h1 h2
    rcases h1 with z | z
    · rw [hput_ne1 z, hput_ne1 h2]
    · rw [hput_ne2 z, hput_ne1 h2]
  refine ⟨_, rfl, ⟨TxU_eq (q _ _ (Or.inl (by omega)) (by omega)) (fun i => q _ _ (Or.inl (by omega)) (by omega)) u1, LtU_eq (q _ _ (Or.inl (by omega)) (by omega)) (fun c i hc => q _ _ (Or.inl (by omega)) (by omega)) u2, NuU_eq (q _ _ (Or.inr (by decide)) (by omega)) (q _ _ (Or.inr (by decide)) (by omega)) (q _ _ (Or.inr (by decide)) (by omega)) u3, ⟨?_, ?_, ?_⟩, HdU_eq (fun i => q _ _ (Or.inl (by omega)) (by omega)) u5⟩, fun c s h1 h2 h3 h4 h5 h6 h7 h8 h9 => q c s (h1.elim Or.inl (fun z => Or.inr (by omega))) h9⟩
  · rw [hput_eq]; show _ = ((stk.length + 1 : Nat) : Int); omega
  · rw [hput_ne1 (by omega), hput_eq]
  · refine StkU_eq stk (fun i hi => ?_) u4.2
    rw [hput_ne1 (by omega), hput_ne2 (by omega)]
theorem wpush_ok (E : UEnv h w P G o8 n row st) {txt : List Int} {ls : List (Int × Int)} {dm br dl : Nat} {stk : List Int} (U : USt h w G st txt ls dm br dl stk) (hl : stk.length < 1024) {s m half : Int} (s0 : 0 ≤ s) (s1 : s < 48) (m0 : 0 ≤ m) (m1 : m < 12) (hh : half = 0 ∨ half = 1) : ∃ h', Wy_push w s m half h = some h' ∧ USt h' w G st txt ls dm br dl ((2 * (12 * s + m) + half) :: stk) ∧ FU w h h' := by
  have k0 := (WyO_k E.1).1
  have ew : w32 ((w32 (2 * (w32 ((w32 (s * 12)) + m)))) + half) = 2 * (12 * s + m) + half := by
    have a1 : w32 (s * 12) = 12 * s := by unfold w32; omega
    have a2 : w32 (12 * s + m) = 12 * s + m := by unfold w32; omega
    have a3 : w32 (2 * (12 * s + m)) = 2 * (12 * s + m) := by unfold w32; omega
    rw [a1, a2, a3]
    unfold w32; omega
  obtain ⟨g, x, U', F⟩ := pushTask_ok E U hl (2 * (12 * s + m) + half)
  unfold Wy_push
  rw [if_pos k0, ew, x, ob_some]
  exact ⟨g, rfl, U', F⟩
/-- a sign is added to the text -/
theorem addT_ok (E : UEnv h w P G o8 n row st) {txt : List Int} {ls : List (Int × Int)} {dm br dl : Nat} {stk : List Int} (U : USt h w G st txt ls dm br dl stk) {v : Int} (v0 : 0 ≤ v) (v1 : v < 128) : ∃ h', By_add (w + 6) v h = some h' ∧ USt h' w G st (txt ++ [v]) ls dm br dl stk ∧ FU w h h' := by
  obtain ⟨o, S, T, B, X, l⟩ := E
  obtain ⟨u1, u2, u3, u4, u5⟩ := U
  obtain ⟨k6, k7, -⟩ := WyO_k2 o
  obtain ⟨g, x, t', q⟩ := By_add_ok (o := w + 6) (c := w + 7) (m := 2048) (v := v) k6 k7.1 k7.2 (by decide) T.2.2.2.2.2.1 (by omega) u1 v0 v1
  exact ⟨g, x, ⟨t', LtU_eq (q _ _ (Or.inl (by omega)) (by omega)) (fun c i hc => q _ _ (Or.inl (by omega)) (by omega)) u2, NuU_eq (q _ _ (Or.inl (by omega)) (by omega)) (q _ _ (Or.inl (by omega)) (by omega)) (q _ _ (Or.inl (by omega)) (by omega)) u3, SkU_eq (q _ _ (Or.inl (by omega)) (by omega)) (fun i => q _ _ (Or.inl (by omega)) (by omega)) u4, HdU_eq (fun i => q _ _ (Or.inl (by omega)) (by omega)) u5⟩, fun c s h1 h2 h3 h4 h5 h6 h7 h8 h9 => q c s h3 h4⟩
theorem blank_ok (E : UEnv h w P G o8 n row st) {txt : List Int} {ls : List (Int × Int)} {dm br dl : Nat} {stk : List Int} (U : USt h w G st txt ls dm br dl stk) : ∃ h', Wy_blankAhead w h = some h' ∧ USt h' w G st (if txt = [] then [] else txt ++ [32]) ls dm br dl stk ∧ FU w h h' := by
  have k0 := (WyO_k E.1).1
  have k6 := (WyO_k2 E.1).1
  have e9 : h w 9 = w + 6 := E.2.2.1.1
  have e1 := U.1.1
  unfold Wy_blankAhead
  rw [if_pos k0, e9, if_pos k6, e1]
  by_cases ht : txt = []
  · subst ht
    rw [if_pos (show ((min ([] : List Int).length 2048 : Nat) : Int) ≤ 0 by decide), if_pos rfl]
    exact ⟨h, rfl, U, FU.rf⟩
  · have : 0 < txt.length := List.length_pos_iff.mpr ht
    obtain ⟨g, x, U', F⟩ := addT_ok E U (v := 32) (by decide) (by decide)
    rw [if_neg (by omega), x, ob_some, if_neg ht]
    exact ⟨g, rfl, U', F⟩
/-- a blank, where one is due, and a sign -/
theorem sign_ok (E : UEnv h w P G o8 n row st) {txt : List Int} {ls : List (Int × Int)} {dm br dl : Nat} {stk : List Int} (U : USt h w G st txt ls dm br dl stk) {v : Int} (v0 : 0 ≤ v) (v1 : v < 128) : ∃ h1 h', Wy_blankAhead w h = some h1 ∧ h1 w 9 = w + 6 ∧ By_add (w + 6) v h1 = some h' ∧ USt h' w G st (emit txt [v]) ls dm br dl stk ∧ FU w h h' := by
  obtain ⟨g, x, U', F⟩ := blank_ok E U
  have E' := UEnv_fu F E
  obtain ⟨g2, x2, U2, F2⟩ := addT_ok E' U' v0 v1
  refine ⟨g, g2, x, E'.2.2.1.1, x2, ?_, F.tr F2⟩
  unfold emit
  by_cases ht : txt = []
  · rw [if_pos ht] at U2 ⊢
    exact U2
  · rw [if_neg ht] at U2 ⊢
    rw [List.append_assoc] at U2
    exact U2
end
