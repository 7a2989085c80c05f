/-! grammar: what was read is a grammar as it should be -/
def isBr (d : Dv) : Prop := ∃ m y, d = .intMul m y ∨ ∃ z, d = .add z (.intMul m y)
def TOK (d : Dv) : Prop := isBr d ∧ ftT d ≤ 1 ∧ lckB d = false ∧ szT d ≤ 12
def GOK (G : Gm) (dd : Int → Dv) : Prop := (0 ≤ nT G ∧ nT G ≤ 8) ∧ (0 ≤ nN G ∧ nN G ≤ 40) ∧ ft G 0 = 0 ∧ ft G (nT G) = nN G ∧ ∀ t, 0 ≤ t → t < nT G → Hd true G (dd t) (ft G t) (-1) ∧ ft G (t + 1) = ft G t + szT (dd t) ∧ (∀ n, ft G t ≤ n → n < ft G (t + 1) → tr G n = t) ∧ TOK (dd t)
def LcB (R : Gm) (x : Dv) (n w : Int) : Prop := R 3 n = n + 1 ∧ ((∃ y, R 4 n = -1 ∧ Hd true R y (n + 1) n ∧ szT x = szT y + 1 ∧ ltT x = ltT y ∧ ftT x = ftT y) ∨ (∃ y z, R 4 n = n + 1 + szT y ∧ Hd true R y (n + 1) n ∧ Hd true R z (n + 1 + szT y) n ∧ szT x = szT y + szT z + 1 ∧ ltT x = ltT y + ltT z ∧ ftT x = ftT y + ftT z))
def Loc (R : Gm) (x : Dv) (n w : Int) : Prop := (0 ≤ R 0 n ∧ R 0 n ≤ 4) ∧ (R 0 n = 0 → LcB R x n w) ∧ (R 0 n ≠ 0 → R 3 n = -1 ∧ R 4 n = -1 ∧ R 2 n = 0 ∧ szT x = 1) ∧ ((R 0 n ≠ 2 → 0 ≤ R 1 n ∧ R 1 n < 26) ∧ (R 0 n = 2 → R 1 n = -1)) ∧ (R 6 n = ltT x ∧ R 7 n = ftT x) ∧ ((R 0 n = 1 → ltT x = 1) ∧ (2 ≤ R 0 n → ltT x = 0)) ∧ ((R 0 n = 3 → ftT x = 1) ∧ (R 0 n ≠ 3 → R 0 n ≠ 0 → ftT x = 0)) ∧ (0 ≤ R 2 n ∧ R 2 n ≤ 2) ∧ R 5 n = w
section
variable {R : Gm}
theorem Rw_leaf {d : Dv} {n k l u : Int} (h : Rw true R d n k l 0 (-1) (-1) u) (sz : szT d = 1) (k0 : 1 ≤ k) (k4 : k ≤ 4) (hl : k = 2 → l = -1) (a1 : k = 1 → ltT d = 1) (a2 : 2 ≤ k → ltT d = 0) (a3 : k = 3 → ftT d = 1) (a4 : k ≠ 3 → ftT d = 0) : Loc R d n u := by
  obtain ⟨⟨h0, h1, h2, h3, h4, h5⟩, hb, hm, h67⟩ := h
  have h67 := h67 rfl
  unfold Loc
  rw [h0, h1, h2, h3, h4, h5]
  exact ⟨by omega, fun z => by omega, fun _ => ⟨rfl, rfl, rfl, sz⟩, ⟨hb, hl⟩, h67, ⟨a1, a2⟩, ⟨a3, fun z _ => a4 z⟩, by omega, rfl⟩
theorem Hd_loc : ∀ (x : Dv) (n w : Int), Hd true R x n w → Loc R x n w
  | .zero, n, w, h => Rw_leaf h rfl (by decide) (by decide) (fun _ => rfl) (fun z => absurd z (by decide)) (fun _ => rfl) (fun z => absurd z (by decide)) (fun _ => rfl)
  | .var a, n, w, h => Rw_leaf h rfl (by decide) (by decide) (fun z => absurd z (by decide)) (fun _ => rfl) (fun z => absurd z (by decide)) (fun z => absurd z (by decide)) (fun _ => rfl)
  | .neg x, n, w, h => Rw_leaf h rfl (by decide) (by decide) (fun z => absurd z (by decide)) (fun z => absurd z (by decide)) (fun _ => rfl) (fun _ => rfl) (fun z => absurd rfl z)
  | .sub x y, n, w, h => Rw_leaf h rfl (by decide) (by decide) (fun z => absurd z (by decide)) (fun z => absurd z (by decide)) (fun _ => rfl) (fun z => absurd z (by decide)) (fun _ => rfl)
  | .natMul _ _, _, _, h => h.elim
  | .intMul m x, n, w, h => by
    obtain ⟨⟨⟨h0, h1, h2, h3, h4, h5⟩, hb, hm, h67⟩, hx⟩ := h
    have h67 := h67 rfl
    refine ⟨by omega, fun _ => ⟨h3, Or.inl ⟨x, h4, hx, rfl, rfl, rfl⟩⟩, fun z => absurd h0 z, ⟨fun _ => by rw [h1]; exact hb (by decide), fun z => by omega⟩, h67, ⟨fun z => by omega, fun z => by omega⟩, ⟨fun z => by omega, fun _ z => absurd h0 z⟩, by omega, h5⟩
  | .add x (.intMul m y), n, w, h => by
    obtain ⟨⟨⟨h0, h1, h2, h3, h4, h5⟩, hb, hm, h67⟩, hx, hy⟩ := h
    have h67 := h67 rfl
    refine ⟨by omega, fun _ => ⟨h3, Or.inr ⟨x, y, h4, hx, hy, rfl, rfl, rfl⟩⟩, fun z => absurd h0 z, ⟨fun _ => by rw [h1]; exact hb (by decide), fun z => by omega⟩, h67, ⟨fun z => by omega, fun z => by omega⟩, ⟨fun z => by omega, fun _ z => absurd h0 z⟩, by omega, h5⟩
  | .add _ .zero, _, _, h => h.elim
  | .add _ (.var _), _, _, h => h.elim
  | .add _ (.neg _), _, _, h => h.elim
  | .add _ (.sub _ _), _, _, h => h.elim
  | .add _ (.natMul _ _), _, _, h => h.elim
  | .add _ (.add _ _), _, _, h => h.elim
/-- where a node's part ends, by its rows -/
def enF (G : Gm) : Nat → Int → Int
  | 0, n => n + 1
  | f + 1, n => if kd G n ≠ 0 then n + 1 else if c2 G n = -1 then enF G f (c1 G n) else enF G f (c2 G n)
theorem enF_ok : ∀ (f : Nat) (x : Dv) (n w : Int), 0 ≤ n → Hd true R x n w → szT x ≤ f → enF R f n = n + szT x
  | 0, x, n, w, _, _, h => by have := szT_pos x; omega
  | f + 1, x, n, w, n0, H, h => by
    obtain ⟨l0, l1, l2, l3⟩ := Hd_loc x n w H
    unfold enF
    by_cases hk : R 0 n ≠ 0
    · have hk' : kd R n ≠ 0 := hk
      rw [if_pos hk', (l2 hk).2.2.2]
      rfl
    · have hk0 : R 0 n = 0 := by omega
      have hk' : ¬ kd R n ≠ 0 := hk
      rw [if_neg hk']
      obtain ⟨e3, d⟩ := l1 hk0
      rcases d with ⟨y, e4, hy, sz, _⟩ | ⟨y, z, e4, hy, hz, sz, _⟩
      · have e4' : c2 R n = -1 := e4
        have e3' : c1 R n = n + 1 := e3
        rw [if_pos e4', e3', enF_ok f y (n + 1) n (by omega) hy (by omega), sz]
        omega
      · have e4' : ¬ c2 R n = -1 := by show ¬ R 4 n = -1; omega
        have e4'' : c2 R n = n + 1 + szT y := e4
        rw [if_neg e4', e4'', enF_ok f z (n + 1 + szT y) n (by omega) hz (by omega), sz]
        omega
end
section
variable {G : Gm} {dd : Int → Dv}
theorem GOK_find (K : GOK G dd) : ∀ (k : Nat) (n : Int), (k : Int) ≤ nT G → 0 ≤ n → n < ft G k → ∃ t : Int, 0 ≤ t ∧ t < (k : Int) ∧ ft G t ≤ n ∧ n < ft G (t + 1)
  | 0, n, _, n0, n1 => by
    have := K.2.2.1
    have n1 : n < ft G 0 := n1
    omega
  | k + 1, n, kT, n0, n1 => by
    by_cases z : n < ft G k
    · obtain ⟨t, t0, t1, t2⟩ := GOK_find K k n (by omega) n0 z
      exact ⟨t, t0, by omega, t2⟩
    · exact ⟨k, by omega, by omega, by omega, n1⟩
theorem GOK_at (K : GOK G dd) {n : Int} (n0 : 0 ≤ n) (n1 : n < nN G) : ∃ t x w, 0 ≤ t ∧ t < nT G ∧ ft G t ≤ n ∧ n < ft G (t + 1) ∧ tr G n = t ∧ Sb true G (dd t) (ft G t) (-1) n x w := by
  obtain ⟨t, t0, t1, t2, t3⟩ := GOK_find K (nT G).toNat n (by have := K.1; omega) n0 (by rw [show ((nT G).toNat : Int) = nT G by have := K.1; omega, K.2.2.2.1]; exact n1)
  have tT : t < nT G := by have := K.1; omega
  obtain ⟨H, e, tt, ok⟩ := K.2.2.2.2 t t0 tT
  obtain ⟨x, w, S⟩ := Hd_at (dd t) (ft G t) (-1) H n t2 (by omega)
  exact ⟨t, x, w, t0, tT, t2, t3, tt n t2 t3, S⟩
theorem GOK_le (K : GOK G dd) : ∀ (k : Nat) (t : Int), 0 ≤ t → t + k ≤ nT G → 0 ≤ ft G t → ft G t ≤ ft G (t + k)
  | 0, t, _, _, _ => by rw [show t + ((0 : Nat) : Int) = t by omega]; exact Int.le_refl _
  | k + 1, t, t0, t1, hz => by
    have s1 := (K.2.2.2.2 t t0 (by omega)).2.1
    have := GOK_le K k (t + 1) (by omega) (by omega) (by omega)
    rw [show t + ((k + 1 : Nat) : Int) = t + 1 + k by omega]
    omega
theorem GOK_in (K : GOK G dd) {t : Int} (t0 : 0 ≤ t) (t1 : t ≤ nT G) : 0 ≤ ft G t ∧ ft G t ≤ nN G := by
  have a := GOK_le K t.toNat 0 (Int.le_refl _) (by omega) (by rw [K.2.2.1]; exact Int.le_refl _)
  rw [K.2.2.1, show 0 + (t.toNat : Int) = t by omega] at a
  have b := GOK_le K (nT G - t).toNat t t0 (by omega) a
  rw [show t + ((nT G - t).toNat : Int) = nT G by omega, K.2.2.2.1] at b
  exact ⟨a, b⟩
theorem lck_lt {d : Dv} (h : lckB d = false) : ltT d = 0 → ftT d = 0 ∧ ktT 4 d = 0 := by
  unfold lckB at h
  have := of_decide_eq_false h
  intro z
  omega
theorem GOK_root (K : GOK G dd) {t : Int} (t0 : 0 ≤ t) (t1 : t < nT G) : kd G (ft G t) = 0 ∧ nd G (ft G t) = ltT (dd t) ∧ sp G (ft G t) = ftT (dd t) := by
  obtain ⟨H, e, tt, ⟨⟨m, y, hb⟩, ok⟩⟩ := K.2.2.2.2 t t0 t1
  obtain ⟨l0, l1, l2, l3, l4, l5⟩ := Hd_loc _ _ _ H
  refine ⟨?_, l4.1, l4.2⟩
  rcases hb with hb | ⟨z, hb⟩
  · rw [hb] at H; exact H.1.1.1
  · rw [hb] at H; exact H.1.1.1
theorem GOK_WF (K : GOK G dd) : WF G := by
  have at' := fun n n0 n1 => GOK_at K (n := n) n0 n1
  refine ⟨K.1, K.2.1, ⟨K.2.2.1, K.2.2.2.1⟩, fun t t0 t1 => ?_, fun n n0 n1 => ?_, fun n t t0 t1 a b => (K.2.2.2.2 t t0 t1).2.2.1 n a b, fun n n0 n1 => ?_, fun n n0 n1 k0 => ?_, fun n n0 n1 k0 => ?_, fun n n0 n1 => ?_, fun n n0 n1 => ?_, fun n n0 n1 => ?_, fun t t0 t1 => ?_, fun n n0 n1 k4 => ?_, fun n n0 n1 => ?_⟩
  · have := K.2.2.2.2 t t0 t1
    have sz := szT_pos (dd t)
    have s12 := this.2.2.2.2.2.2
    omega
  · obtain ⟨t, x, w, t0, t1, a, b, c, S⟩ := at' n n0 n1
    rw [c]
    exact ⟨t0, t1, a, b⟩
  · obtain ⟨t, x, w, t0, t1, a, b, c, S⟩ := at' n n0 n1
    exact (Hd_loc x n w S.1).1
  · obtain ⟨t, x, w, t0, t1, a, b, c, S⟩ := at' n n0 n1
    obtain ⟨e3, d⟩ := (Hd_loc x n w S.1).2.1 k0
    have sb := S.2.1
    have et := (K.2.2.2.2 t t0 t1).2.1
    have e3 : c1 G n = n + 1 := e3
    rw [c]
    rcases d with ⟨y, e4, hy, sz, _⟩ | ⟨y, z, e4, hy, hz, sz, _⟩
    · have e4 : c2 G n = -1 := e4
      have := szT_pos y
      exact ⟨by omega, by omega, Or.inl e4⟩
    · have e4 : c2 G n = n + 1 + szT y := e4
      have := szT_pos y
      have := szT_pos z
      exact ⟨by omega, by omega, Or.inr ⟨by omega, by omega⟩⟩
  · obtain ⟨t, x, w, t0, t1, a, b, c, S⟩ := at' n n0 n1
    have := (Hd_loc x n w S.1).2.2.1 k0
    exact ⟨this.1, this.2.1, this.2.2.1⟩
  · obtain ⟨t, x, w, t0, t1, a, b, c, S⟩ := at' n n0 n1
    exact (Hd_loc x n w S.1).2.2.2.1
  · obtain ⟨t, x, w, t0, t1, a, b, c, S⟩ := at' n n0 n1
    obtain ⟨l0, l1, l2, l3, l4, l5, l6⟩ := Hd_loc x n w S.1
    have nx : nd G n = ltT x := l4.1
    rw [c, (GOK_root K t0 t1).2.1, nx]
    have sl := S.2.2.1
    refine ⟨by omega, fun z => by have := l5.1 z; omega, fun z => by have := l5.2 z; omega, fun z => ?_, by omega⟩
    obtain ⟨e3, d⟩ := l1 z
    have e3 : c1 G n = n + 1 := e3
    rcases d with ⟨y, e4, hy, sz, q1, q2⟩ | ⟨y, v, e4, hy, hz, sz, q1, q2⟩
    · have e4 : c2 G n = -1 := e4
      have y6 : nd G (n + 1) = ltT y := (Hd_loc y _ _ hy).2.2.2.2.1.1
      rw [e3, if_pos e4, y6]
      omega
    · have e4 : c2 G n = n + 1 + szT y := e4
      have y6 : nd G (n + 1) = ltT y := (Hd_loc y _ _ hy).2.2.2.2.1.1
      have v6 : nd G (n + 1 + szT y) = ltT v := (Hd_loc v _ _ hz).2.2.2.2.1.1
      rw [if_neg (by omega), e3, e4, y6, v6]
      omega
  · obtain ⟨t, x, w, t0, t1, a, b, c, S⟩ := at' n n0 n1
    obtain ⟨l0, l1, l2, l3, l4, l5, l6, l7⟩ := Hd_loc x n w S.1
    have nx : sp G n = ftT x := l4.2
    have sl := S.2.2.2.1
    have f1 := (K.2.2.2.2 t t0 t1).2.2.2.2.1
    rw [nx]
    refine ⟨by omega, fun z => by have := l6.1 z; omega, fun z z' => by have := l6.2 z z'; omega, fun z => ?_⟩
    obtain ⟨e3, d⟩ := l1 z
    have e3 : c1 G n = n + 1 := e3
    rcases d with ⟨y, e4, hy, sz, q1, q2⟩ | ⟨y, v, e4, hy, hz, sz, q1, q2⟩
    · have e4 : c2 G n = -1 := e4
      have y6 : sp G (n + 1) = ftT y := (Hd_loc y _ _ hy).2.2.2.2.1.2
      rw [e3, if_pos e4, y6]
      omega
    · have e4 : c2 G n = n + 1 + szT y := e4
      have y6 : sp G (n + 1) = ftT y := (Hd_loc y _ _ hy).2.2.2.2.1.2
      have v6 : sp G (n + 1 + szT y) = ftT v := (Hd_loc v _ _ hz).2.2.2.2.1.2
      rw [if_neg (by omega), e3, e4, y6, v6]
      omega
  · obtain ⟨r1, r2, r3⟩ := GOK_root K t0 t1
    have lk := lck_lt (K.2.2.2.2 t t0 t1).2.2.2.2.2.1
    refine ⟨r1, fun z => ?_⟩
    rw [r3] at z
    rw [r2]
    by_cases y : ltT (dd t) = 0
    · have := lk y; omega
    · omega
  · obtain ⟨t, x, w, t0, t1, a, b, c, S⟩ := at' n n0 n1
    obtain ⟨H, et, _, ok⟩ := K.2.2.2.2 t t0 t1
    have lk := lck_lt ok.2.2.1
    have := kt_of (k := 4) H a (by omega) k4 (Or.inr (Or.inr rfl))
    rw [c, (GOK_root K t0 t1).2.1]
    by_cases y : ltT (dd t) = 0
    · have := lk y; omega
    · omega
  · obtain ⟨t, x, w, t0, t1, a, b, c, S⟩ := at' n n0 n1
    exact (Hd_loc x n w S.1).2.2.2.2.2.2.2.1
theorem GOK_UpR (K : GOK G dd) : UpR G := by
  intro n n0 n1
  obtain ⟨t, x, w, t0, t1, a, b, c, S⟩ := GOK_at K n0 n1
  have f0 := (GOK_in K t0 (by omega)).1
  have u : up G n = w := (Hd_loc x n w S.1).2.2.2.2.2.2.2.2
  rw [u, c]
  constructor
  · intro z
    by_cases y : ft G t < n
    · have := S.2.2.2.2.2.2 y; omega
    · omega
  · intro z
    exact (S.2.2.2.2.2.1 z).2
theorem GOK_EnX (K : GOK G dd) : EnX G := by
  refine ⟨enF G 12, fun n n0 n1 => ?_, fun t t0 t1 => ?_⟩
  · obtain ⟨t, x, w, t0, t1, a, b, c, S⟩ := GOK_at K n0 n1
    have et := (K.2.2.2.2 t t0 t1).2.1
    have s12 := (K.2.2.2.2 t t0 t1).2.2.2.2.2.2
    have sx := S.2.1
    have x12 : szT x ≤ 12 := by omega
    have ex := enF_ok 12 x n w n0 S.1 x12
    obtain ⟨l0, l1, l2, l3⟩ := Hd_loc x n w S.1
    rw [ex]
    refine ⟨fun z => by rw [(l2 z).2.2.2]; rfl, fun z => ?_⟩
    obtain ⟨e3, d⟩ := l1 z
    have e3 : c1 G n = n + 1 := e3
    rcases d with ⟨y, e4, hy, sz, q1, q2⟩ | ⟨y, v, e4, hy, hz, sz, q1, q2⟩
    · have e4 : c2 G n = -1 := e4
      have ey := enF_ok 12 y (n + 1) n (by omega) hy (by omega)
      rw [e3, ey]
      exact ⟨rfl, fun _ => by omega, fun z => absurd e4 z⟩
    · have e4 : c2 G n = n + 1 + szT y := e4
      have ey := enF_ok 12 y (n + 1) n (by omega) hy (by omega)
      have ev := enF_ok 12 v (n + 1 + szT y) n (by omega) hz (by omega)
      rw [e3, ey, e4, ev]
      exact ⟨rfl, fun z => by omega, fun _ => ⟨rfl, by omega⟩⟩
  · obtain ⟨H, et, _, ok⟩ := K.2.2.2.2 t t0 t1
    rw [enF_ok 12 _ _ _ (GOK_in K t0 (by omega)).1 H ok.2.2.2, et]
theorem EnR_of (X : EnX G) : EnR G := by
  obtain ⟨en, e1, e2⟩ := X
  refine ⟨en, fun n n0 n1 => ?_, fun t t0 t1 => by rw [e2 t t0 t1]; exact Int.le_refl _⟩
  obtain ⟨a, b⟩ := e1 n n0 n1
  refine ⟨fun z => by rw [a z]; exact Int.le_refl _, fun z => ?_⟩
  obtain ⟨b1, b2, b3⟩ := b z
  exact ⟨by rw [b1]; exact Int.le_refl _, fun y => by rw [b2 y]; exact Int.le_refl _, fun y => ⟨by rw [← (b3 y).1]; exact Int.le_refl _, by rw [(b3 y).2]; exact Int.le_refl _⟩⟩
theorem GOK_GIn (K : GOK G dd) : GIn G := ⟨GOK_WF K, GOK_UpR K, EnR_of (GOK_EnX K)⟩
end
/-! what the pure reader promises of its trees -/
section
variable {tl : Int} {tp : Int → Int}
theorem gP_br {f : Nat} {b rl p N : Int} {fo : Bool} {x : Dv} {q : Int} {fx : Bool} (e : gP tl tp (f + 1) true b rl p N fo = .inr (x, q, fx)) : isBr x := by
  by_cases h1 : isLb (tpC tl tp p) = false
  · unfold gP at e
    rw [if_pos h1] at e
    exact absurd e (by simp)
  · by_cases h2 : rmN b N = false
    · unfold gP at e
      rw [if_neg h1, if_pos h2] at e
      exact absurd e (by simp)
    · rw [gP_kd h1 h2] at e
      rcases kdR_form e with ⟨y, h, _⟩ | ⟨y, z, h⟩
      · exact ⟨_, y, Or.inl h⟩
      · exact ⟨_, z, Or.inr ⟨y, h⟩⟩
theorem gL_ok {T N p : Int} {x : Dv} {q : Int} (p0 : 0 ≤ p) (e : gL tl tp T N p = .inr (x, q)) : TOK x ∧ N + (szT x : Int) ≤ 40 ∧ T < 8 := by
  unfold gL at e
  by_cases w : wdB tl tp p = true
  · rw [if_pos w] at e
    by_cases hT : T < 8
    · rw [if_pos hT] at e
      unfold lnR at e
      by_cases h40 : tpC tl tp (blA tl tp (p + 4)) = 40
      · rw [if_pos h40] at e
        have b1 := (blA_le (tl := tl) (tp := tp) (p + 4)).1
        have b2 := (blA_le (tl := tl) (tp := tp) (blA tl tp (p + 4) + 1)).1
        cases hr : rtR tl tp (gP tl tp 402 true N 0 (blA tl tp (blA tl tp (p + 4) + 1)) N false) with
        | inl z => rw [hr] at e; exact absurd e (by simp)
        | inr z =>
          obtain ⟨y, q', fx⟩ := z
          rw [hr] at e
          simp only at e
          by_cases h59 : tpC tl tp q' = 59
          · rw [if_pos h59] at e
            injection e with e
            injection e with e1 e2
            subst e1
            obtain ⟨p3, hg, h41, lk, _⟩ := rtR_inv hr
            have gi := gP_in (tl := tl) (tp := tp) 402 true N 0 _ N false y p3 fx (by omega) hg
            have gf := (gP_ft 402 true N 0 _ N false y p3 fx hg).2 rfl
            refine ⟨⟨gP_br (f := 401) hg, by rw [gf]; split <;> decide, lk, by omega⟩, gi.2.1, hT⟩
          · rw [if_neg h59] at e; exact absurd e (by simp)
      · rw [if_neg h40] at e; exact absurd e (by simp)
    · rw [if_neg hT] at e; exact absurd e (by simp)
  · rw [if_neg w] at e; exact absurd e (by simp)
theorem gL_pos {T N p : Int} {x : Dv} {q : Int} (p0 : 0 ≤ p) (e : gL tl tp T N p = .inr (x, q)) : 0 ≤ q := by
  unfold gL at e
  by_cases w : wdB tl tp p = true
  · rw [if_pos w] at e
    by_cases hT : T < 8
    · rw [if_pos hT] at e
      unfold lnR at e
      by_cases h40 : tpC tl tp (blA tl tp (p + 4)) = 40
      · rw [if_pos h40] at e
        have b1 := (blA_le (tl := tl) (tp := tp) (p + 4)).1
        have b2 := (blA_le (tl := tl) (tp := tp) (blA tl tp (p + 4) + 1)).1
        cases hr : rtR tl tp (gP tl tp 402 true N 0 (blA tl tp (blA tl tp (p + 4) + 1)) N false) with
        | inl z => rw [hr] at e; exact absurd e (by simp)
        | inr z =>
          obtain ⟨y, q', fx⟩ := z
          rw [hr] at e
          simp only at e
          by_cases h59 : tpC tl tp q' = 59
          · rw [if_pos h59] at e
            injection e with e
            injection e with e1 e2
            obtain ⟨p3, hg, h41, lk, hq⟩ := rtR_inv hr
            have gi := gP_in (tl := tl) (tp := tp) 402 true N 0 _ N false y p3 fx (by omega) hg
            have b3 := (blA_le (tl := tl) (tp := tp) (p3 + 1)).1
            have b4 := (blA_le (tl := tl) (tp := tp) (q' + 1)).1
            omega
          · rw [if_neg h59] at e; exact absurd e (by simp)
      · rw [if_neg h40] at e; exact absurd e (by simp)
    · rw [if_neg hT] at e; exact absurd e (by simp)
  · rw [if_neg w] at e; exact absurd e (by simp)
theorem gT_ok : ∀ (k : Nat) (T N p : Int) (dd : Int → Dv) (T' N' : Int) (dd' : Int → Dv), 0 ≤ p → (∀ t, 0 ≤ t → t < T → TOK (dd t)) → gT tl tp k T N p dd = .inr (T', N', dd') → ∀ t, 0 ≤ t → t < T' → TOK (dd' t)
  | 0, _, _, _, _, _, _, _, _, _, e => absurd e (by unfold gT; simp)
  | k + 1, T, N, p, dd, T', N', dd', p0, q, e => by
    unfold gT at e
    by_cases hp : tl ≤ p
    · rw [if_pos hp] at e
      injection e with e
      injection e with e1 e2
      injection e2 with e2 e3
      rw [← e1, ← e3]
      exact q
    · rw [if_neg hp] at e
      cases hx : gL tl tp T N p with
      | inl z => rw [hx] at e; exact absurd e (by simp)
      | inr z =>
        obtain ⟨x, r⟩ := z
        rw [hx] at e
        simp only at e
        refine gT_ok k (T + 1) (N + szT x) r _ T' N' dd' (gL_pos p0 hx) (fun t t0 t1 => ?_) e
        by_cases z : t = T
        · simp only [if_pos z]; exact (gL_ok p0 hx).1
        · simp only [if_neg z]; exact q t t0 (by omega)
end
