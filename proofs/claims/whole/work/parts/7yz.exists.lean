/-! test: the steps told make a tree -/
section
variable {P o8 n : Int} {G : Gm} {ps st : St} {ou : Int → Bool} {en : Int → Int}
theorem At_Sh {L M : Int} : ∀ (d : Dv) (s half node : Int), At G st L M d s half node → Sh G d half node
  | .zero, _, _, _, A => ⟨A.1, A.2.1⟩
  | .var _, _, _, _, A => A
  | .neg d, s, half, node, A => ⟨A.1, A.2.1, At_Sh d _ _ _ A.2.2.2⟩
  | .intMul t d, s, half, node, A => by
    obtain ⟨a, b, s', -, -, -, A'⟩ := A
    exact ⟨a, b, At_Sh d _ _ _ A'⟩
  | .natMul _ d, s, half, node, A => ⟨A.1, A.2.1, A.2.2.1, At_Sh d _ _ _ A.2.2.2⟩
  | .add x y, s, half, node, A => ⟨A.1, A.2.1, A.2.2.1, At_Sh x _ _ _ A.2.2.2.1, At_Sh y _ _ _ A.2.2.2.2⟩
  | .sub x d, s, half, node, A => ⟨A.1, A.2.1, At_Sh x _ _ _ A.2.2.1, At_Sh d _ _ _ A.2.2.2⟩
/-- what is put where -/
def PutOK (G : Gm) (st : St) : Prop := ∀ s b : Int, 0 ≤ s → s < (st.length : Int) → 0 ≤ b → sPut st s b ≠ -1 → (s < sPut st s b ∧ sPut st s b < (st.length : Int)) ∧ (sEnt st (sPut st s b)).2.1 = s ∧ (sEnt st (sPut st s b)).2.2 = b ∧ ((kd G (ndS G st s b) = 0 ∧ sp G (ft G (sEnt st (sPut st s b)).1) = 1) ∨ (kd G (ndS G st s b) = 4 ∧ sp G (ft G (sEnt st (sPut st s b)).1) = 0))
theorem Bld_put : ∀ {st : St}, Bld G ou ps st → PutOK G st
  | [], _, s, b, s0, s1, _, _ => by have : (([] : St).length : Int) = 0 := rfl; omega
  | x :: r, B, s, b, s0, s1, b0, hp => by
    have hl : (((x :: r).length : Nat) : Int) = (r.length : Int) + 1 := by show ((r.length + 1 : Nat) : Int) = _; omega
    have ep : sPut (x :: r) s b = if x.2.1 = s ∧ x.2.2 = b then (r.length : Int) else sPut r s b := rfl
    have ee : ∀ j : Int, sEnt (x :: r) j = if j = r.length then x else sEnt r j := fun _ => rfl
    by_cases hc : x.2.1 = s ∧ x.2.2 = b
    · rw [if_pos hc] at ep
      rw [ep]
      have ok := B.2.2.1
      have ex := B.1
      have hz : ¬ r.length = 0 := by
        intro z
        have : x.2.1 = -1 := by rw [ex]; unfold en0; rw [if_pos z]
        omega
      have e0 : x = sEnt ps (r.length : Int) := by rw [ex]; unfold en0; rw [if_neg hz]
      rcases ok.2.2 with z | z
      · exact absurd z.1 hz
      · rw [← e0, hc.1, hc.2] at z
        have sr := z.2.1.2
        have ene : ndS G (x :: r) s b = ndS G r s b := by
          unfold ndS
          rw [ee, if_neg (by omega)]
        rw [ee, if_pos rfl, ene, hl]
        refine ⟨⟨sr, by omega⟩, hc.1, hc.2, ?_⟩
        rcases z.2.2.2.2 with w | w
        · exact Or.inl ⟨w.1, w.2.2.1⟩
        · exact Or.inr ⟨w.1, w.2.1⟩
    · rw [if_neg hc] at ep
      rw [ep] at hp ⊢
      have hs : s < (r.length : Int) := by
        refine Classical.byContradiction (fun z => hp ?_)
        have F : ∀ (r : St), Bld G ou ps r → ∀ s n', (r.length : Int) ≤ s → 0 ≤ s → sPut r s n' = -1 := by
          intro r
          induction r with
          | nil => intro _ _ _ _ _; rfl
          | cons y q ih =>
            intro Bq s n' hs h0
            have hq : (((y :: q).length : Nat) : Int) = (q.length : Int) + 1 := by show ((q.length + 1 : Nat) : Int) = _; omega
            show (if y.2.1 = s ∧ y.2.2 = n' then (q.length : Int) else sPut q s n') = -1
            rw [if_neg, ih Bq.2.2.2 s n' (by omega) h0]
            intro w
            have w1 := w.1
            rw [Bq.1] at w1
            unfold en0 at w1
            rcases Bq.2.2.1.2.2 with v | v
            · rw [if_pos v.1] at w1
              simp only at w1
              omega
            · rw [if_neg v.1] at w1
              have := v.2.1.2
              omega
        exact F r B.2.2.2 s b (by omega) s0
      obtain ⟨q1, q2, q3, q4⟩ := Bld_put B.2.2.2 s b s0 hs b0 hp
      have ene : ndS G (x :: r) s b = ndS G r s b := by
        unfold ndS
        rw [ee, if_neg (by omega)]
      rw [ee, if_neg (by omega), ene, hl]
      exact ⟨⟨q1.1, by omega⟩, q2, q3, q4⟩
theorem ex_At (W : WF G) (TS : TrS G ps st) (PO : PutOK G st) (k4 : ∀ s, 0 ≤ s → s < (st.length : Int) → ¬ lkQ G st 4 0 s) : ∀ (f : Nat) (s half node : Int), (half = 0 ∨ half = 1) → 0 ≤ s → s < (st.length : Int) → 0 ≤ node → node < nN G → tr G node = (sEnt st s).1 → (half = 0 → kd G node = 0) → 100 * ((st.length : Int) - s) + 2 * (ft G (tr G node + 1) - node) + half ≤ f → ∃ d, At G st 0 st.length d s half node := by
  intro f
  induction f with
  | zero =>
    intro s half node hh s0 s1 n0 n1 et hk hm
    have := wf_tr W n0 n1
    omega
  | succ f ih =>
  intro s half node hh s0 s1 n0 n1 et hk hm
  have wt := wf_tr W n0 n1
  have wk := wf_kd W n0 n1
  have o0 : 0 ≤ off G node := by unfold off; omega
  have en : ndS G st s (off G node) = node := by unfold ndS off; rw [et]; omega
  have po := PO s (off G node) s0 s1 o0
  rw [en] at po
  have stp : sPut st s (off G node) ≠ -1 → (0 ≤ (sEnt st (sPut st s (off G node))).1 ∧ (sEnt st (sPut st s (off G node))).1 < nT G) ∧ ∃ d, At G st 0 st.length d (sPut st s (off G node)) 1 (ft G (sEnt st (sPut st s (off G node))).1) := by
    intro hp
    obtain ⟨q1, q2, q3, q4⟩ := po hp
    have ts := TS.2 (sPut st s (off G node)) (by omega) q1.2
    have r := root_in W ts.2.1 ts.2.2
    have sw := (wf_step W ts.2.1 ts.2.2)
    have etr : tr G (ft G (sEnt st (sPut st s (off G node))).1) = (sEnt st (sPut st s (off G node))).1 := wf_tru W ts.2.1 ts.2.2 (Int.le_refl _) sw.1
    refine ⟨ts.2, ih _ 1 _ (Or.inr rfl) (by omega) q1.2 r.1 r.2.1 etr (fun z => absurd z (by decide)) ?_⟩
    rw [etr]
    generalize sPut st s (off G node) = s' at q1 sw ⊢
    have sw1 := sw.2
    omega
  have ent : sPut st s (off G node) ≠ -1 → sEnt st (sPut st s (off G node)) = ((sEnt st (sPut st s (off G node))).1, s, off G node) := by
    intro hp
    obtain ⟨q1, q2, q3, q4⟩ := po hp
    generalize sEnt st (sPut st s (off G node)) = e at q2 q3 ⊢
    obtain ⟨a, b, c⟩ := e
    simp only at q2 q3
    rw [q2, q3]
  rcases hh with h0 | h1
  · have k0 := hk h0
    have c := ch_in W n0 n1 k0
    obtain ⟨d1, A1⟩ := ih s 1 (c1 G node) (Or.inr rfl) s0 s1 c.1.2.1 c.1.2.2.1 (by rw [c.1.2.2.2]; exact et) (fun z => absurd z (by decide)) (by rw [c.1.2.2.2]; have := c.1.1; omega)
    by_cases h2 : c2 G node = -1
    · exact ⟨.natMul 0 d1, h0, k0, h2, A1⟩
    · have c' := c.2 h2
      obtain ⟨d2, A2⟩ := ih s 1 (c2 G node) (Or.inr rfl) s0 s1 c'.2.1 c'.2.2.1 (by rw [c'.2.2.2]; exact et) (fun z => absurd z (by decide)) (by rw [c'.2.2.2]; have := c'.1; have := c.1.1; omega)
      exact ⟨.add d1 d2, h0, k0, h2, A1, A2⟩
  · by_cases k0 : kd G node = 0
    · obtain ⟨d0, A0⟩ := ih s 0 node (Or.inl rfl) s0 s1 n0 n1 et (fun _ => k0) (by omega)
      by_cases hp : sPut st s (off G node) = -1
      · exact ⟨.neg d0, h1, k0, hp, A0⟩
      · obtain ⟨tt, d', A'⟩ := stp hp
        have q1 := (po hp).1
        exact ⟨.sub (.intMul _ d') d0, h1, k0, ⟨tt, fun z => absurd rfl z, _, ⟨by omega, q1.2⟩, rfl, ent hp, A'⟩, A0⟩
    · by_cases k4' : kd G node = 4
      · have hp : sPut st s (off G node) ≠ -1 := by
          intro z
          refine k4 s s0 s1 ⟨off G node, ⟨o0, ?_⟩, ?_⟩
          · rw [← et]; unfold off; omega
          · unfold lkB
            rw [en]
            exact ⟨k4', (wf_nch W n0 n1 k0).2.2, z⟩
        obtain ⟨tt, d', A'⟩ := stp hp
        obtain ⟨q1, q2, q3, q4⟩ := po hp
        have s4 : sp G (ft G (sEnt st (sPut st s (off G node))).1) = 0 := by
          rcases q4 with z | z
          · exact absurd z.1 k0
          · exact z.2
        exact ⟨.intMul _ d', tt, fun _ => ⟨h1, k4', s4⟩, _, ⟨by omega, q1.2⟩, rfl, ent hp, A'⟩
      · have hp : sPut st s (off G node) = -1 := by
          refine Classical.byContradiction (fun z => ?_)
          obtain ⟨q1, q2, q3, q4⟩ := po z
          rcases q4 with w | w
          · exact k0 w.1
          · exact k4' w.1
        exact ⟨.zero, h1, by omega, hp⟩
end
