section MWAYS
variable {h h' : Hp} {G : Gm} {ou : Int → Bool} {row : Int → Int}
theorem gp_if {s p : Int} (hs : s = 0 ∨ s = 1) : (if s = 0 then (-1) else p) = gp s p := by
  unfold gp
  rcases hs with rfl | rfl
  · rfl
  · rfl
theorem M_canSplit_ok (Rp : RepM h G ou row) (W : WF G) {half node i m j p q : Int} (hi : itm G half node i j p q) (hk : kd G node = 0) (h2 : c2 G node ≠ -1) (m0 : i ≤ m) (m1 : m ≤ j) :
    M_canSplit 121 node i m j p q h = some (if ¬ (sp G (c1 G node) = 1 ∧ m < q) ∧ ¬ (sp G (c2 G node) = 1 ∧ p < m) ∧ nd G (c1 G node) ≤ cov i m (gp (sp G (c1 G node)) p) (gp (sp G (c1 G node)) q) ∧ nd G (c2 G node) ≤ cov m j (gp (sp G (c2 G node)) p) (gp (sp G (c2 G node)) q) then 1 else 0) := by
  have n0 := hi.2.1
  have n1 := hi.2.2.1
  have hn := wf_nn W
  have hch := wf_ch W n0 n1 hk
  rcases hch.2.2 with qq | qq
  · exact absurd qq h2
  have a1 := child_in W n0 n1 hch.1 hch.2.1
  have a2 := child_in W n0 n1 (by omega) qq.2
  have s1 := (wf_sp W a1.1 a1.2.1).1
  have s2 := (wf_sp W a2.1 a2.2.1).1
  have r := Rp.2.2.2.2.1 node n0 n1
  have r1 := (Rp.2.2.2.2.1 _ a1.1 a1.2.1).2.2.2.2.2.2.1
  have r2 := (Rp.2.2.2.2.1 _ a2.1 a2.2.1).2.2.2.2.2.2.1
  have f8 : h 121 8 = 126 := ms_at Rp.1 (by decide)
  have f9 : h 121 9 = 127 := ms_at Rp.1 (by decide)
  have f14 : h 121 14 = 130 := ms_at Rp.1 (by decide)
  have key : (¬ (sp G (c1 G node) = 1 ∧ m < q)) → (¬ (sp G (c2 G node) = 1 ∧ p < m)) → M_canSplit_j50 121 node i m j p q (sp G (c1 G node)) (sp G (c2 G node)) h = some (if ¬ (sp G (c1 G node) = 1 ∧ m < q) ∧ ¬ (sp G (c2 G node) = 1 ∧ p < m) ∧ nd G (c1 G node) ≤ cov i m (gp (sp G (c1 G node)) p) (gp (sp G (c1 G node)) q) ∧ nd G (c2 G node) ≤ cov m j (gp (sp G (c2 G node)) p) (gp (sp G (c2 G node)) q) then 1 else 0) := by
    intro e1 e2
    obtain ⟨g1, g2, -⟩ := split_items W hi hk h2 m0 m1 e1 e2
    unfold M_canSplit_j50 M_canSplit_j70 M_canSplit_j81 M_canSplit_j108 M_canSplit_j119 M_canSplit_j129
    rw [gp_if s1, gp_if s1, gp_if s2, gp_if s2, if_pos kK_121, f8, r.2.2.2.1, if_pos ⟨kK_126, n0, by rw [kL_126]; omega⟩, if_pos kK_121, M_hasRoom_ok Rp W g1, ob_some, f9, r.2.2.2.2.1, if_pos (show kK 127 = 21 ∧ (0 : Int) ≤ node ∧ node < kL 127 from ⟨kK_127, n0, by rw [kL_127]; omega⟩), M_hasRoom_ok Rp W g2, ob_some]
    simp only [kK_121, if_true]
    by_cases q1 : cov i m (gp (sp G (c1 G node)) p) (gp (sp G (c1 G node)) q) < nd G (c1 G node)
    · rw [if_pos q1, if_pos rfl, if_neg]
      intro z; have := z.2.2.1; omega
    · rw [if_neg q1, if_neg (by decide)]
      by_cases q2 : cov m j (gp (sp G (c2 G node)) p) (gp (sp G (c2 G node)) q) < nd G (c2 G node)
      · rw [if_pos q2, if_pos rfl, if_neg]
        intro z; have := z.2.2.2; omega
      · rw [if_neg q2, if_neg (by decide), if_pos ⟨e1, e2, by omega, by omega⟩]
  unfold M_canSplit M_canSplit_j37
  rw [if_pos kK_121, f8, f9, f14, r.2.2.2.1, r.2.2.2.2.1, if_pos ⟨kK_126, n0, by rw [kL_126]; omega⟩, if_pos ⟨kK_130, a1.1, by rw [kL_130]; omega⟩, if_pos ⟨kK_127, n0, by rw [kL_127]; omega⟩, if_pos ⟨kK_130, a2.1, by rw [kL_130]; omega⟩, r1, r2]
  by_cases z1 : sp G (c1 G node) = 0
  · rw [if_pos z1]
    by_cases z2 : sp G (c2 G node) = 0
    · rw [if_pos z2]
      exact key (by omega) (by omega)
    · rw [if_neg z2]
      by_cases z3 : m ≤ p
      · rw [if_pos z3]
        exact key (by omega) (by omega)
      · rw [if_neg z3, if_neg]
        intro z; exact z.2.1 ⟨by omega, by omega⟩
  · rw [if_neg z1]
    by_cases z4 : m < q
    · rw [if_pos z4, if_neg]
      intro z; exact z.1 ⟨by omega, z4⟩
    · rw [if_neg z4]
      by_cases z2 : sp G (c2 G node) = 0
      · rw [if_pos z2]
        exact key (by omega) (by omega)
      · rw [if_neg z2]
        by_cases z3 : m ≤ p
        · rw [if_pos z3]
          exact key (by omega) (by omega)
        · rw [if_neg z3, if_neg]
          intro z; exact z.2.1 ⟨by omega, by omega⟩
/-- what was kept is right -/
def Memo (h : Hp) (G : Gm) (ou : Int → Bool) (row : Int → Int) : Prop := ∀ half node i j p q, itm G half node i j p q → h 144 (mkey h half node i j p q) = -9 ∨ h 144 (mkey h half node i j p q) = capN (wW G ou row half node i j p q)
/-- nothing but the kept numbers has changed -/
def D144 (h h' : Hp) : Prop := ∀ a i, a ≠ 144 → h' a i = h a i
theorem D144.rf : D144 h h := fun _ _ _ => rfl
theorem D144.tr {h'' : Hp} (a : D144 h h') (b : D144 h' h'') : D144 h h'' := fun x i hx => (b x i hx).trans (a x i hx)
theorem RepM_144 (Rp : RepM h G ou row) (D : D144 h h') : RepM h' G ou row := by
  have e : ∀ a i, a ≠ 144 → h' a i = h a i := D
  obtain ⟨p1, p2, p3, p4, p5, p6, p7, p8, p9, p10⟩ := Rp
  refine ⟨fun q hq => by rw [e _ _ (by decide)]; exact p1 q hq, by rw [e _ _ (by decide)]; exact p2, by rw [e _ _ (by decide)]; exact p3, fun t t0 t1 => by rw [e _ _ (by decide)]; exact p4 t t0 t1, fun n n0 n1 => ?_, fun t t0 t1 => by rw [e _ _ (by decide)]; exact p6 t t0 t1, fun t t0 t1 => by rw [e _ _ (by decide)]; exact p7 t t0 t1, fun i i0 i1 => by rw [e _ _ (by decide)]; exact p8 i i0 i1, ?_, ?_⟩
  · rw [e 123 _ (by decide), e 124 _ (by decide), e 125 _ (by decide), e 126 _ (by decide), e 127 _ (by decide), e 129 _ (by decide), e 130 _ (by decide), e 131 _ (by decide)]
    exact p5 n n0 n1
  · intro i j p q i0 ij j8 d
    rw [e 139 _ (by decide)]
    exact p9 i j p q i0 ij j8 d
  · intro i j p q i' j' p' q' i0 ij j8 d i0' ij' j8' d' he
    rw [e 139 _ (by decide), e 139 _ (by decide)] at he
    exact p10 i j p q i' j' p' q' i0 ij j8 d i0' ij' j8' d' he
theorem mkey_144 (D : D144 h h') (half node i j p q : Int) : mkey h' half node i j p q = mkey h half node i j p q := by
  unfold mkey; rw [D 139 _ (by decide)]
/-- frames that a search needs -/
def fr (G : Gm) (half node i j p q : Int) : Int := 216 * cov i j p q + 72 * turn G node + 6 * (12 - (node - ft G (tr G node))) + (if half = 1 then 0 else -2)
/-- a function that finds the number of ways, where at most B frames are needed -/
def SpecW (F : List Int → Hp → Option (Int × Hp)) (G : Gm) (ou : Int → Bool) (row : Int → Int) (B : Int) : Prop := ∀ half node i j p q (h : Hp), itm G half node i j p q → fr G half node i j p q ≤ B → RepM h G ou row → Memo h G ou row →
  ∃ h', F [121, half, node, i, j, p, q] h = some (capN (wW G ou row half node i j p q), h') ∧ D144 h h' ∧ Memo h' G ou row
end MWAYS
