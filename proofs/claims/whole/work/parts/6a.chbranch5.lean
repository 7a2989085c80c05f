/-- a root has nothing above it, and nothing else has -/
def UpR (G : Gm) : Prop := ∀ n, 0 ≤ n → n < nN G → (up G n = -1 ↔ n = ft G (tr G n))
section
variable {h : Hp} {o P sz : Int} {G : Gm} {ou : Int → Bool} {A : Ag} {V : Int → Prop} {S : SV} {D : SD}
theorem Ch_fillBranch_ok (E : Ev h o P G sz ou A V) (Q : AEq G ou A V sz S) (hU : UpR G) {node c : Int} (T : Tab h o P G sz ou A S D) (n0 : 0 ≤ node) (n1 : node < nN G) (hk : kd G node = 0) (ho : ou (tr G node) = false) (c0 : 0 ≤ c) (c1 : c ≤ sz)
    (dn : ∀ half i j p q, itm G half node i j p q → cov i j p q = c → D half node i j p q = false)
    (hD : ∀ half' node' i' j' p' q' half i j p q, itm G half' node' i' j' p' q' → itm G half node i j p q → cov i j p q = c → bef G node' i' j' p' q' node i j p q → D half' node' i' j' p' q' = true) :
    ∃ h', Ch_fillBranch o node c h = some h' ∧ Off o h h' ∧ Tab h' o P G sz ou A S (dN D node c) := by
  have W := E.1
  have R := E.2.1
  have C := E.2.2.1
  have kc := ChO_k C.1
  have nn := wf_nn W
  have sn := (wf_sp W n0 n1).1
  obtain ⟨k0, k1, k2, k3, k4, k5, k6, k7, k8, k9, k10, k11, k12, k13⟩ := GrO_k R.1
  have rr := R.2.2.2.2.2.1 node n0 n1
  have e13 : h P 13 = P + 8 := R.2.1.2.2.2.2.2.2.2.1
  have e15 : h P 15 = P + 10 := R.2.1.2.2.2.2.2.2.2.2.2.1
  have f8 : h (P + 8) node = up G node := rr.2.2.2.2.2.2.1
  have f10 : h (P + 10) node = sp G node := rr.2.2.2.2.2.2.2.2
  unfold Ch_fillBranch Ch_fillBranch_j31 Ch_fillBranch_j32
  rw [if_pos kc.1, C.2.1, if_pos k0, e13, e15, f8, f10, if_pos ⟨k10.1, n0, by rw [k10.2]; omega⟩]
  by_cases hs : sp G node = 0
  · obtain ⟨h2, e2, o2, t2⟩ := branch_i E Q (gu := 0) T n0 n1 hk ho c0 c1 dn hD (Or.inl ⟨rfl, fun z => by omega⟩)
    rw [if_pos hs, e2, ob_some]
    exact ⟨h2, rfl, o2, t2⟩
  · rw [if_neg hs, if_pos ⟨k8.1, n0, by rw [k8.2]; omega⟩]
    by_cases hu : up G node = -1
    · obtain ⟨h2, e2, o2, t2⟩ := branch_i E Q (gu := 1) T n0 n1 hk ho c0 c1 dn hD (Or.inr ⟨rfl, by omega, (hU node n0 n1).1 hu⟩)
      rw [if_pos hu, e2, ob_some]
      exact ⟨h2, rfl, o2, t2⟩
    · obtain ⟨h2, e2, o2, t2⟩ := branch_i E Q (gu := 0) T n0 n1 hk ho c0 c1 dn hD (Or.inl ⟨rfl, fun z => hu ((hU node n0 n1).2 z.2)⟩)
      rw [if_neg hu, e2, ob_some]
      exact ⟨h2, rfl, o2, t2⟩
end
