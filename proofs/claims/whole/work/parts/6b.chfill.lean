/-! the class: fill, node by node and cover by cover -/
def pB (f : Int → Int) (k node : Int) : Bool := (List.range k.toNat).any (fun x => decide (f (x : Int) = node))
theorem pB_iff {f : Int → Int} {k node : Int} : pB f k node = true ↔ ∃ x, 0 ≤ x ∧ x < k ∧ f x = node := by
  unfold pB
  rw [List.any_eq_true]
  constructor
  · rintro ⟨x, hx, he⟩
    rw [List.mem_range] at hx
    exact ⟨x, by omega, by omega, of_decide_eq_true he⟩
  · rintro ⟨x, x0, x1, he⟩
    exact ⟨x.toNat, List.mem_range.mpr (by omega), by rw [show ((x.toNat : Nat) : Int) = x by omega]; exact decide_eq_true he⟩
def dC (f : Int → Int) (c k : Int) : SD := fun _ node i j p q => decide (cov i j p q < c) || (decide (cov i j p q = c) && pB f k node)
theorem dC_iff {f : Int → Int} {c k half node i j p q : Int} : dC f c k half node i j p q = true ↔ cov i j p q < c ∨ (cov i j p q = c ∧ ∃ x, 0 ≤ x ∧ x < k ∧ f x = node) := by
  unfold dC
  rw [Bool.or_eq_true, Bool.and_eq_true, decide_eq_true_iff, decide_eq_true_iff, pB_iff]
theorem b_eq {a b : Bool} (h : a = true ↔ b = true) : a = b := by
  cases a <;> cases b <;> simp at h ⊢
section
variable {h : Hp} {o P sz : Int} {G : Gm} {ou : Int → Bool} {A : Ag} {V : Int → Prop} {S : SV} {D : SD}
theorem dC_nx {f : Int → Int} {c k half node i j p q : Int} (k0 : 0 ≤ k) : dC f c (k + 1) half node i j p q = dN (dC f c k) (f k) c half node i j p q := by
  apply b_eq
  unfold dN
  rw [Bool.or_eq_true, decide_eq_true_iff, dC_iff, dC_iff]
  constructor
  · rintro (h1 | ⟨h1, x, x0, x1, e⟩)
    · exact Or.inl (Or.inl h1)
    · by_cases hx : x = k
      · subst hx; exact Or.inr ⟨e.symm, h1⟩
      · exact Or.inl (Or.inr ⟨h1, x, x0, by omega, e⟩)
  · rintro ((h1 | ⟨h1, x, x0, x1, e⟩) | ⟨h1, h2⟩)
    · exact Or.inl h1
    · exact Or.inr ⟨h1, x, x0, by omega, e⟩
    · exact Or.inr ⟨h2, k, k0, by omega, h1.symm⟩
theorem sign_skip (W : WF G) (Q : AEq G ou A V sz S) {node half i j p q : Int} (n0 : 0 ≤ node) (n1 : node < nN G) (hk0 : kd G node ≠ 0) (hk4 : kd G node ≠ 4) (hi : itm G half node i j p q) (hj : j ≤ sz) (hc : nd G node ≠ cov i j p q) : S half node i j p q = 0 := by
  have hkd := wf_kd W n0 n1
  have cj := cov_j hi
  have ndw := wf_nd W n0 n1
  have spw := wf_sp W n0 n1
  rcases (show kd G node = 1 ∨ kd G node = 2 ∨ kd G node = 3 by omega) with z | z | z
  · rw [(Q _ _ _ _ _ _ hi hj).2.2.1 z, if_neg]
    have := ndw.2.1 z
    have := cj.2 (spw.2.2.1 (by omega) (by omega))
    omega
  · rw [(Q _ _ _ _ _ _ hi hj).2.2.2.1 z, if_neg]
    have := ndw.2.2.1 (by omega)
    have := cj.2 (spw.2.2.1 (by omega) (by omega))
    omega
  · rw [(Q _ _ _ _ _ _ hi hj).2.2.2.2.1 z, if_neg]
    rintro ⟨rfl, rfl⟩
    have := ndw.2.2.1 (by omega)
    have := hi.2.2.2.1
    rw [cov_gap (by omega)] at hc
    omega
set_option maxHeartbeats 8000000 in
theorem fill_node (E : Ev h o P G sz ou A V) (Q : AEq G ou A V sz S) (hU : UpR G) {c k : Int} (T : Tab h o P G sz ou A S (dC (h (P + 11)) c k)) (c0 : 0 ≤ c) (c1 : c ≤ sz) (k0 : 0 ≤ k) (k1 : k < nN G) :
    ∃ h', Ch_fill_L40 o c k h = some (.inl (k + 1, h')) ∧ Off o h h' ∧ Tab h' o P G sz ou A S (dC (h (P + 11)) c (k + 1)) := by
  have W := E.1
  have R := E.2.1
  have C := E.2.2.1
  have U := E.2.2.2.2.2
  have kc := ChO_k C.1
  have nn := wf_nn W
  have nt := wf_nt W
  have z8 := C.2.2.2.2.2.2
  obtain ⟨g0, g1, g2, g3, g4, g5, g6, g7, g8, g9, g10, g11, g12, g13⟩ := GrO_k R.1
  obtain ⟨n0, n1⟩ := R.2.2.2.2.2.2.2.2.1 k k0 k1
  have surj := R.2.2.2.2.2.2.2.2.2.1
  have srt := R.2.2.2.2.2.2.2.2.2.2
  generalize hf : h (P + 11) = f at *
  have rr := R.2.2.2.2.2.1 (f k) n0 n1
  have e1 : h P 1 = nN G := R.2.2.2.1
  have e7 : h P 7 = P + 2 := R.2.1.2.1
  have e8 : h P 8 = P + 3 := R.2.1.2.2.1
  have e14 : h P 14 = P + 9 := R.2.1.2.2.2.2.2.2.2.2.1
  have e16 : h P 16 = P + 11 := R.2.1.2.2.2.2.2.2.2.2.2.2.1
  have f2 : h (P + 2) (f k) = tr G (f k) := rr.1
  have f3 : h (P + 3) (f k) = kd G (f k) := rr.2.1
  have f9 : h (P + 9) (f k) = nd G (f k) := rr.2.2.2.2.2.2.2.1
  have trn := wf_tr W n0 n1
  have hb := U.1 (tr G (f k)) trn.1 (by omega)
  unfold bit at hb
  have dn : ∀ half i j p q, itm G half (f k) i j p q → cov i j p q = c → dC f c k half (f k) i j p q = false := by
    intro half i j p q hi hc
    cases hd : dC f c k half (f k) i j p q
    · rfl
    · rcases dC_iff.1 hd with z | ⟨-, x, x0, x1, e⟩
      · omega
      · rcases srt x k x0 x1 k1 with z | z
        · rw [e] at z; omega
        · rw [e] at z; omega
  have hD : ∀ half' node' i' j' p' q' half i j p q, itm G half' node' i' j' p' q' → itm G half (f k) i j p q → cov i j p q = c → bef G node' i' j' p' q' (f k) i j p q → dC f c k half' node' i' j' p' q' = true := by
    intro half' node' i' j' p' q' half i j p q hi' hi hc hb
    rw [dC_iff]
    rcases hb with z | ⟨z1, z2⟩
    · left; omega
    · right
      obtain ⟨x, x0, x1, e⟩ := surj node' hi'.2.1 hi'.2.2.1
      refine ⟨by omega, x, x0, ?_, e⟩
      apply Classical.byContradiction
      intro hx
      by_cases hxk : x = k
      · subst hxk; rw [e] at z2; omega
      · rcases srt k x k0 (by omega) x1 with y | y
        · rw [e] at y; omega
        · rw [e] at y; omega
  have skip : (∀ half i j p q, itm G half (f k) i j p q → j ≤ sz → ou (tr G (f k)) = false → cov i j p q = c → S half (f k) i j p q = 0) → Tab h o P G sz ou A S (dC f c (k + 1)) := by
    intro hs
    refine Tab_congr E T ?_
    intro half node i j p q hi hj ho
    by_cases hn : node = f k ∧ cov i j p q = c
    · obtain ⟨rfl, hc⟩ := hn
      exact Or.inr (hs _ _ _ _ _ hi hj ho hc)
    · left
      rw [dC_nx k0]
      unfold dN
      rw [decide_eq_false hn, Bool.or_false]
  have full : ∀ h', Tab h' o P G sz ou A S (dN (dC f c k) (f k) c) → Tab h' o P G sz ou A S (dC f c (k + 1)) := by
    intro h' ht
    have : dC f c (k + 1) = dN (dC f c k) (f k) c := by
      funext a b d e g i
      exact dC_nx k0
    rw [this]
    exact ht
  unfold Ch_fill_L40 Ch_fill_j169 Ch_isThere
  rw [if_pos kc.1, C.2.1, if_pos g0, e1, if_neg (by omega), e16, e7, e8, e14, hf, if_pos ⟨g11.1, k0, by rw [g11.2]; omega⟩, if_pos ⟨g2.1, n0, by rw [g2.2]; omega⟩, if_pos kc.1, ob_some, f2, f3, f9, hb, show w32 (k + 1) = k + 1 by unfold w32; omega]
  cases ho : ou (tr G (f k))
  · rw [if_neg (by decide), if_pos ⟨g9.1, n0, by rw [g9.2]; omega⟩]
    by_cases hn : nd G (f k) ≤ c
    · rw [if_pos hn, if_pos ⟨g3.1, n0, by rw [g3.2]; omega⟩]
      by_cases hk0 : kd G (f k) = 0
      · obtain ⟨h2, e2, o2, t2⟩ := Ch_fillBranch_ok E Q hU T n0 n1 hk0 ho c0 c1 dn hD
        rw [if_pos hk0, e2, ob_some]
        exact ⟨h2, rfl, o2, full _ t2⟩
      · rw [if_neg hk0]
        by_cases hk4 : kd G (f k) = 4
        · obtain ⟨h2, e2, o2, t2⟩ := Ch_fillPlace_ok E Q T n0 n1 hk4 ho c0 c1 hD
          rw [if_pos hk4, e2, ob_some]
          refine ⟨h2, rfl, o2, full _ (Tab_congr (E.off o2) t2 ?_)⟩
          intro half node i j p q hi hj _
          left
          unfold dI dN
          congr 1
          have cj := cov_j hi
          apply decide_eq_decide.mpr
          constructor
          · rintro ⟨a, b, -⟩; exact ⟨a, b⟩
          · rintro ⟨a, b⟩; exact ⟨a, b, by omega⟩
        · rw [if_neg hk4]
          have hkd := wf_kd W n0 n1
          by_cases hc : nd G (f k) = c
          · obtain ⟨h2, e2, o2, t2⟩ := Ch_fillSign_ok E Q T n0 n1 (by omega) ho
            rw [if_pos hc, e2, ob_some]
            rw [hc] at t2
            exact ⟨h2, rfl, o2, full _ t2⟩
          · rw [if_neg hc]
            refine ⟨h, rfl, Off.rf, skip ?_⟩
            intro half i j p q hi hj _ hcv
            exact sign_skip W Q n0 n1 hk0 hk4 hi hj (by rw [hcv]; exact hc)
    · rw [if_neg hn]
      exact ⟨h, rfl, Off.rf, skip (fun half i j p q hi hj _ hc => (Q _ _ _ _ _ _ hi hj).2.1 (by omega))⟩
  · rw [if_pos (by decide)]
    exact ⟨h, rfl, Off.rf, skip (fun half i j p q hi hj hoo _ => by rw [ho] at hoo; exact absurd hoo (by decide))⟩
end
