/-! test: a step is read by the class -/
section
variable (tl : Int) (tp : Int → Int)
def vvA (p : Int) : Int := (nvA tl tp 1000000 p).2
def eeA (p : Int) : Int := blA tl tp (nvA tl tp 1000000 p).1
def ddA (p : Int) : Bool := isD (tpC tl tp p)
/-- a step's three numbers, and where the next begins -/
def stepA (k : Nat) (p : Int) : Option ((Int × Int × Int) × Int) :=
  if k = 0 then (if ddA tl tp p = true ∧ tpC tl tp (eeA tl tp p) = 59 then some ((vvA tl tp p, 0, 0), blA tl tp (eeA tl tp p + 1)) else none)
  else (if ddA tl tp p = true ∧ ddA tl tp (eeA tl tp p) = true ∧ ddA tl tp (eeA tl tp (eeA tl tp p)) = true ∧ tpC tl tp (eeA tl tp (eeA tl tp (eeA tl tp p))) = 59 then some ((vvA tl tp p, vvA tl tp (eeA tl tp p), vvA tl tp (eeA tl tp (eeA tl tp p))), blA tl tp (eeA tl tp (eeA tl tp (eeA tl tp p)) + 1)) else none)
end
def TrX (h : Hp) (ps : St) : Prop := h 10 4 = (ps.length : Int) ∧ ∀ i : Int, 0 ≤ i → i < (ps.length : Int) → h 13 i = (sEnt ps i).1 ∧ h 14 i = (sEnt ps i).2.1 ∧ h 15 i = (sEnt ps i).2.2
def rs4 (f : Hp) : Option (Int × Hp) :=
  if kK (10 : Int) = 6 then
  if kK (f 10 5) = 21 ∧ (0 : Int) ≤ f 10 4 ∧ f 10 4 < kL (f 10 5) then
  if f (f 10 5) (f 10 4) < 0 then
    SR_readStep_j117 10 f
  else
    if kK (f 10 6) = 21 ∧ (0 : Int) ≤ f 10 4 ∧ f 10 4 < kL (f 10 6) then
    if f (f 10 6) (f 10 4) < 0 then
      SR_readStep_j117 10 f
    else
      if kK (f 10 7) = 21 ∧ (0 : Int) ≤ f 10 4 ∧ f 10 4 < kL (f 10 7) then
      if f (f 10 7) (f 10 4) < 0 then
        SR_readStep_j117 10 f
      else
        if kK (f 10 0) = 0 then
        ob (By_at (f 10 0) (f 10 3) f) (fun r105 =>
          if r105 = 59 then
            SR_readStep_j118 10 1 f
          else
            SR_readStep_j117 10 f)
        else none
      else none
    else none
  else none
  else none
theorem rs_j60 (s0 s1 s2 : Int) (h : Hp) : SR_readStep_j60 10 s0 s1 s2 h = if kK s2 = 21 ∧ (0 : Int) ≤ s1 ∧ s1 < kL s2 then rs4 (hput h s2 s1 s0) else none := rfl
def rs3 (f : Hp) : Option (Int × Hp) := if kK (10 : Int) = 6 then if f 10 4 = 0 then SR_readStep_j60 10 0 (f 10 4) (f 10 7) f else ob (SR_readNumber 10 f) (fun r57 => SR_readStep_j60 10 r57.1 (f 10 4) (f 10 7) r57.2) else none
theorem rs_j36 (s0 s1 s2 : Int) (h : Hp) : SR_readStep_j36 10 s0 s1 s2 h = if kK s2 = 21 ∧ (0 : Int) ≤ s1 ∧ s1 < kL s2 then rs3 (hput h s2 s1 s0) else none := rfl
def rs2 (f : Hp) : Option (Int × Hp) := if f 10 4 = 0 then SR_readStep_j36 10 0 (f 10 4) (f 10 6) f else ob (SR_readNumber 10 f) (fun r33 => SR_readStep_j36 10 r33.1 (f 10 4) (f 10 6) r33.2)
def rs1 (c k v : Int) (f : Hp) : Option (Int × Hp) := if kK c = 21 ∧ (0 : Int) ≤ k ∧ k < kL c then rs2 (hput f c k v) else none
theorem readStep_eq (h : Hp) : SR_readStep 10 h = if kK (10 : Int) = 6 then ob (SR_readNumber 10 h) (fun r9 => rs1 (h 10 5) (h 10 4) r9.1 r9.2) else none := rfl
section
variable {h h' : Hp} {tl : Int} {tp : Int → Int}
theorem eeA_in (t0 : 0 ≤ tl) {p : Int} (p0 : 0 ≤ p) (p1 : p ≤ tl) : p ≤ eeA tl tp p ∧ eeA tl tp p ≤ tl := by
  have a := nvN_le (tl := tl) (tp := tp) 1000000 (tl - p).toNat p 0
  have b := blA_le (tl := tl) (tp := tp) (nvA tl tp 1000000 p).1
  unfold eeA
  have : (nvA tl tp 1000000 p).1 ≤ tl := by unfold nvA; omega
  have c := b.2.1 this
  have : p ≤ (nvA tl tp 1000000 p).1 := by unfold nvA; omega
  omega
theorem vvA_in (p : Int) : 0 ≤ vvA tl tp p ∧ vvA tl tp p ≤ 1000000 := by
  have := nvN_two (tl := tl) (tp := tp) (tl - p).toNat p 0 0 (Or.inl rfl) (Int.le_refl _) (Int.le_refl _) (by decide) (by decide)
  unfold vvA nvA
  exact ⟨this.2.2.2.2.1, this.2.2.2.2.2⟩
/-- the end of a step -/
theorem j118_ok (E : SrE h tl tp) {p k s0 : Int} (hp : h 10 3 = p) (p0 : 0 ≤ p) (p1 : p ≤ 402) (hk : h 10 4 = k) (k0 : 0 ≤ k) (k1 : k < 1000) (hs : s0 = 0 ∨ s0 = 1) : ∃ h', SR_readStep_j118 10 s0 h = some (s0, h') ∧ SrF h h' ∧ h' 10 3 = blA tl tp (p + 1) ∧ h' 10 4 = k + 1 ∧ h' 13 = h 13 ∧ h' 14 = h 14 ∧ h' 15 = h 15 := by
  unfold SR_readStep_j118
  rw [if_pos kK_10, E.2.2.1, if_pos (by decide), hp, show w32 (p + 1) = p + 1 by unfold w32; omega, sr_blanks E (by omega), ob_some]
  simp only
  rw [hput_ne2 (show (4 : Int) ≠ 3 by decide), hk, show w32 (k + 1) = k + 1 by unfold w32; omega, if_pos hs]
  refine ⟨_, rfl, ?_, ?_, ?_, ?_, ?_, ?_⟩
  · intro c s z1 z2 z3 z4
    rcases z1 with z | z
    · rw [hput_ne1 z, hput_ne1 z]
    · rw [hput_ne2 z.2, hput_ne2 z.1]
  · rw [hput_ne2 (by decide), hput_eq]
  · rw [hput_eq]
  · funext s; rw [hput_ne1 (by decide), hput_ne1 (by decide)]
  · funext s; rw [hput_ne1 (by decide), hput_ne1 (by decide)]
  · funext s; rw [hput_ne1 (by decide), hput_ne1 (by decide)]
/-- what is left when the three numbers are there -/
theorem rs4_ok (E : SrE h tl tp) {p k : Int} (hp : h 10 3 = p) (p0 : 0 ≤ p) (p1 : p ≤ 402) (hk : h 10 4 = k) (k0 : 0 ≤ k) (k1 : k < 40) : ∃ b h', rs4 h = some (b, h') ∧ SrF h h' ∧ h' 10 3 = blA tl tp (p + 1) ∧ h' 10 4 = k + 1 ∧ h' 13 = h 13 ∧ h' 14 = h 14 ∧ h' 15 = h 15 ∧ b = if 0 ≤ h 13 k ∧ 0 ≤ h 14 k ∧ 0 ≤ h 15 k ∧ tpC tl tp p = 59 then 1 else 0 := by
  obtain ⟨T, e1, e0, e5, e6, e7⟩ := E
  have E : SrE h tl tp := ⟨T, e1, e0, e5, e6, e7⟩
  obtain ⟨ha, xa, pa⟩ := j118_ok E (s0 := 0) hp p0 p1 hk k0 (by omega) (Or.inl rfl)
  obtain ⟨hb, xb, pb⟩ := j118_ok E (s0 := 1) hp p0 p1 hk k0 (by omega) (Or.inr rfl)
  have y : ∀ c, (c = 13 ∨ c = 14 ∨ c = 15) → kK c = 21 ∧ (0 : Int) ≤ k ∧ k < kL c := by
    rintro c (rfl | rfl | rfl)
    · exact ⟨by decide, k0, by rw [kL_13]; exact k1⟩
    · exact ⟨by decide, k0, by rw [kL_14]; exact k1⟩
    · exact ⟨by decide, k0, by rw [kL_15]; exact k1⟩
  have fa : ∀ F : Prop, [Decidable F] → ¬ F → ∃ b h', SR_readStep_j117 10 h = some (b, h') ∧ SrF h h' ∧ h' 10 3 = blA tl tp (p + 1) ∧ h' 10 4 = k + 1 ∧ h' 13 = h 13 ∧ h' 14 = h 14 ∧ h' 15 = h 15 ∧ b = if F then 1 else 0 := by
    intro F _ hF
    unfold SR_readStep_j117
    exact ⟨0, ha, xa, pa.1, pa.2.1, pa.2.2.1, pa.2.2.2.1, pa.2.2.2.2.1, pa.2.2.2.2.2, by rw [if_neg hF]⟩
  unfold rs4
  rw [if_pos kK_10, e5, hk, if_pos (y 13 (by decide)), e6, if_pos (y 14 (by decide)), e7, if_pos (y 15 (by decide)), e0, if_pos (show kK 1 = 0 by decide), hp, sr_at E p0, ob_some]
  by_cases c1 : h 13 k < 0
  · rw [if_pos c1]; exact fa _ (by omega)
  rw [if_neg c1]
  by_cases c2 : h 14 k < 0
  · rw [if_pos c2]; exact fa _ (by omega)
  rw [if_neg c2]
  by_cases c3 : h 15 k < 0
  · rw [if_pos c3]; exact fa _ (by omega)
  rw [if_neg c3]
  by_cases c4 : tpC tl tp p = 59
  · rw [if_pos c4]
    exact ⟨1, hb, xb, pb.1, pb.2.1, pb.2.2.1, pb.2.2.2.1, pb.2.2.2.2.1, pb.2.2.2.2.2, by rw [if_pos ⟨by omega, by omega, by omega, c4⟩]⟩
  · rw [if_neg c4]; exact fa _ (fun z => c4 z.2.2.2)
theorem readStep_ok (E : SrE h tl tp) {ps : St} (T : TrX h ps) (k1 : ps.length < 40) {p : Int} (hp : h 10 3 = p) (p0 : 0 ≤ p) (p1 : p < tl) : ∃ b h', SR_readStep 10 h = some (b, h') ∧ SrF h h' ∧ ((∃ t p', stepA tl tp ps.length p = some (t, p') ∧ b = 1 ∧ h' 10 3 = p' ∧ TrX h' (t :: ps)) ∨ (stepA tl tp ps.length p = none ∧ b = 0)) := by
  have t0 := E.1.2.1
  have t1 := E.1.2.2.1
  have i1 := eeA_in (tp := tp) t0 p0 (by omega)
  have i2 := eeA_in (tp := tp) (p := eeA tl tp p) t0 (by omega) i1.2
  have i3 := eeA_in (tp := tp) (p := eeA tl tp (eeA tl tp p)) t0 (by omega) i2.2
  have y : ∀ c, (c = 13 ∨ c = 14 ∨ c = 15) → kK c = 21 ∧ (0 : Int) ≤ (ps.length : Int) ∧ (ps.length : Int) < kL c := by
    rintro c (rfl | rfl | rfl)
    · exact ⟨by decide, by omega, by rw [kL_13]; omega⟩
    · exact ⟨by decide, by omega, by rw [kL_14]; omega⟩
    · exact ⟨by decide, by omega, by rw [kL_15]; omega⟩
  obtain ⟨h1, x1, F1, q3, q4, q13, q14, q15⟩ := readNumber_ok E hp p0 (by omega)
  rw [readStep_eq, if_pos kK_10, x1, ob_some, E.2.2.2.1, T.1]
  show ∃ b h', rs1 13 (ps.length : Int) (if isD (tpC tl tp p) then (nvA tl tp 1000000 p).2 else -1) h1 = _ ∧ _
  unfold rs1
  rw [if_pos (y 13 (by decide))]
  generalize hv1 : (if isD (tpC tl tp p) then (nvA tl tp 1000000 p).2 else -1) = v1
  generalize hf1 : hput h1 13 (ps.length : Int) v1 = f1
  have G1 : SrF h1 f1 := fun c s z1 z2 z3 z4 => by rw [← hf1]; exact hput_ne1 z2
  have Ef1 := SrE_f E (F1.tr G1)
  have f1o : ∀ c s, c ≠ 13 → f1 c s = h1 c s := fun c s hc => by rw [← hf1]; exact hput_ne1 hc
  have f14 : f1 10 4 = (ps.length : Int) := by rw [f1o 10 4 (by decide), q4]; exact T.1
  have f13 : f1 10 3 = eeA tl tp p := by rw [f1o 10 3 (by decide), q3]; rfl
  have s1 : (0 ≤ v1 ↔ ddA tl tp p = true) ∧ (ddA tl tp p = true → v1 = vvA tl tp p) := by
    have := vvA_in (tl := tl) (tp := tp) p
    unfold vvA at this
    rw [← hv1]
    unfold ddA vvA
    by_cases hd : isD (tpC tl tp p) = true
    · rw [if_pos hd]; exact ⟨⟨fun _ => hd, fun _ => this.1⟩, fun _ => rfl⟩
    · rw [if_neg hd]; exact ⟨⟨fun z => by omega, fun z => absurd z hd⟩, fun z => absurd z hd⟩
  unfold rs2
  rw [f14, Ef1.2.2.2.2.1]
  by_cases hk : (ps.length : Int) = 0
  · have hk' : ps.length = 0 := by omega
    rw [if_pos hk, rs_j36, if_pos (y 14 (by decide))]
    unfold rs3
    generalize hf2 : hput f1 14 (ps.length : Int) 0 = f2
    have G2 : SrF f1 f2 := fun c s z1 z2 z3 z4 => by rw [← hf2]; exact hput_ne1 z3
    have Ef2 := SrE_f Ef1 G2
    have f2o : ∀ c s, c ≠ 14 → f2 c s = f1 c s := fun c s hc => by rw [← hf2]; exact hput_ne1 hc
    have f24 : f2 10 4 = (ps.length : Int) := by rw [f2o 10 4 (by decide), f14]
    rw [if_pos kK_10, f24, if_pos hk, Ef2.2.2.2.2.2, rs_j60, if_pos (y 15 (by decide))]
    generalize hf3 : hput f2 15 (ps.length : Int) 0 = f3
    have G3 : SrF f2 f3 := fun c s z1 z2 z3 z4 => by rw [← hf3]; exact hput_ne1 z4
    have Ef3 := SrE_f Ef2 G3
    have f3o : ∀ c s, c ≠ 15 → f3 c s = f2 c s := fun c s hc => by rw [← hf3]; exact hput_ne1 hc
    obtain ⟨b, h', x', F', r3, r4, r13, r14, r15, rb⟩ := rs4_ok Ef3 (p := eeA tl tp p) (k := (ps.length : Int)) (by rw [f3o 10 3 (by decide), f2o 10 3 (by decide), f13]) (by omega) (by omega) (by rw [f3o 10 4 (by decide), f24]) (by omega) (by omega)
    have e13 : f3 13 (ps.length : Int) = v1 := by rw [f3o 13 _ (by decide), f2o 13 _ (by decide), ← hf1, hput_eq]
    have e14 : f3 14 (ps.length : Int) = 0 := by rw [f3o 14 _ (by decide), ← hf2, hput_eq]
    have e15 : f3 15 (ps.length : Int) = 0 := by rw [← hf3, hput_eq]
    rw [e13, e14, e15] at rb
    refine ⟨b, h', x', (((F1.tr G1).tr G2).tr G3).tr F', ?_⟩
    unfold stepA
    rw [if_pos hk']
    by_cases ok : ddA tl tp p = true ∧ tpC tl tp (eeA tl tp p) = 59
    · left
      rw [if_pos ok]
      rw [if_pos ⟨s1.1.mpr ok.1, by omega, by omega, ok.2⟩] at rb
      refine ⟨_, _, rfl, rb, r3, ?_, ?_⟩
      · rw [r4]; show _ = ((ps.length + 1 : Nat) : Int); omega
      · intro i i0 i1
        have i1' : i < ((ps.length + 1 : Nat) : Int) := i1
        rw [show i = (ps.length : Int) by omega, cons_ent, r13, r14, r15, e13, e14, e15]
        exact ⟨s1.2 ok.1, rfl, rfl⟩
    · right
      rw [if_neg ok]
      refine ⟨rfl, ?_⟩
      rw [rb, if_neg]
      intro z
      exact ok ⟨s1.1.mp z.1, z.2.2.2⟩
  · have hk' : ¬ ps.length = 0 := by omega
    obtain ⟨h2, x2, F2, u3, u4, u13, u14, u15⟩ := readNumber_ok Ef1 f13 (by omega) (by omega)
    rw [if_neg hk, x2, ob_some]
    generalize hv2 : (if isD (tpC tl tp (eeA tl tp p)) then (nvA tl tp 1000000 (eeA tl tp p)).2 else -1) = v2
    show ∃ b h', SR_readStep_j36 10 v2 (ps.length : Int) 14 h2 = _ ∧ _
    have s2 : (0 ≤ v2 ↔ ddA tl tp (eeA tl tp p) = true) ∧ (ddA tl tp (eeA tl tp p) = true → v2 = vvA tl tp (eeA tl tp p)) := by
      have := vvA_in (tl := tl) (tp := tp) (eeA tl tp p)
      unfold vvA at this
      rw [← hv2]
      unfold ddA vvA
      by_cases hd : isD (tpC tl tp (eeA tl tp p)) = true
      · rw [if_pos hd]; exact ⟨⟨fun _ => hd, fun _ => this.1⟩, fun _ => rfl⟩
      · rw [if_neg hd]; exact ⟨⟨fun z => by omega, fun z => absurd z hd⟩, fun z => absurd z hd⟩
    rw [rs_j36, if_pos (y 14 (by decide))]
    unfold rs3
    generalize hf2 : hput h2 14 (ps.length : Int) v2 = f2
    have G2 : SrF h2 f2 := fun c s z1 z2 z3 z4 => by rw [← hf2]; exact hput_ne1 z3
    have Ef2 := SrE_f Ef1 (F2.tr G2)
    have f2o : ∀ c s, c ≠ 14 → f2 c s = h2 c s := fun c s hc => by rw [← hf2]; exact hput_ne1 hc
    have f24 : f2 10 4 = (ps.length : Int) := by rw [f2o 10 4 (by decide), u4, f14]
    have f23 : f2 10 3 = eeA tl tp (eeA tl tp p) := by rw [f2o 10 3 (by decide), u3]; rfl
    obtain ⟨h3, x3, F3, w3, w4, w13, w14, w15⟩ := readNumber_ok Ef2 f23 (by omega) (by omega)
    rw [if_pos kK_10, f24, if_neg hk, Ef2.2.2.2.2.2, x3, ob_some]
    generalize hv3 : (if isD (tpC tl tp (eeA tl tp (eeA tl tp p))) then (nvA tl tp 1000000 (eeA tl tp (eeA tl tp p))).2 else -1) = v3
    show ∃ b h', SR_readStep_j60 10 v3 (ps.length : Int) 15 h3 = _ ∧ _
    have s3 : (0 ≤ v3 ↔ ddA tl tp (eeA tl tp (eeA tl tp p)) = true) ∧ (ddA tl tp (eeA tl tp (eeA tl tp p)) = true → v3 = vvA tl tp (eeA tl tp (eeA tl tp p))) := by
      have := vvA_in (tl := tl) (tp := tp) (eeA tl tp (eeA tl tp p))
      unfold vvA at this
      rw [← hv3]
      unfold ddA vvA
      by_cases hd : isD (tpC tl tp (eeA tl tp (eeA tl tp p))) = true
      · rw [if_pos hd]; exact ⟨⟨fun _ => hd, fun _ => this.1⟩, fun _ => rfl⟩
      · rw [if_neg hd]; exact ⟨⟨fun z => by omega, fun z => absurd z hd⟩, fun z => absurd z hd⟩
    rw [rs_j60, if_pos (y 15 (by decide))]
    generalize hf3 : hput h3 15 (ps.length : Int) v3 = f3
    have G3 : SrF h3 f3 := fun c s z1 z2 z3 z4 => by rw [← hf3]; exact hput_ne1 z4
    have Ef3 := SrE_f Ef2 (F3.tr G3)
    have f3o : ∀ c s, c ≠ 15 → f3 c s = h3 c s := fun c s hc => by rw [← hf3]; exact hput_ne1 hc
    obtain ⟨b, h', x', F', r3, r4, r13, r14, r15, rb⟩ := rs4_ok Ef3 (p := eeA tl tp (eeA tl tp (eeA tl tp p))) (k := (ps.length : Int)) (by rw [f3o 10 3 (by decide), w3]; rfl) (by omega) (by omega) (by rw [f3o 10 4 (by decide), w4, f24]) (by omega) (by omega)
    have o13 : ∀ i, f3 13 i = f1 13 i := fun i => by rw [f3o 13 _ (by decide), w13, f2o 13 _ (by decide), u13]
    have o14 : ∀ i, f3 14 i = f2 14 i := fun i => by rw [f3o 14 _ (by decide), w14]
    have e13 : f3 13 (ps.length : Int) = v1 := by rw [o13, ← hf1, hput_eq]
    have e14 : f3 14 (ps.length : Int) = v2 := by rw [o14, ← hf2, hput_eq]
    have e15 : f3 15 (ps.length : Int) = v3 := by rw [← hf3, hput_eq]
    rw [e13, e14, e15] at rb
    refine ⟨b, h', x', (((F1.tr G1).tr (F2.tr G2)).tr (F3.tr G3)).tr F', ?_⟩
    unfold stepA
    rw [if_neg hk']
    by_cases ok : ddA tl tp p = true ∧ ddA tl tp (eeA tl tp p) = true ∧ ddA tl tp (eeA tl tp (eeA tl tp p)) = true ∧ tpC tl tp (eeA tl tp (eeA tl tp (eeA tl tp p))) = 59
    · left
      rw [if_pos ok]
      rw [if_pos ⟨s1.1.mpr ok.1, s2.1.mpr ok.2.1, s3.1.mpr ok.2.2.1, ok.2.2.2⟩] at rb
      refine ⟨_, _, rfl, rb, r3, ?_, ?_⟩
      · rw [r4]; show _ = ((ps.length + 1 : Nat) : Int); omega
      · intro i i0 i1
        have i1' : i < ((ps.length + 1 : Nat) : Int) := i1
        rw [r13, r14, r15]
        by_cases he : i = (ps.length : Int)
        · rw [he, cons_ent, e13, e14, e15]
          exact ⟨s1.2 ok.1, s2.2 ok.2.1, s3.2 ok.2.2.1⟩
        · show _ = (if i = (ps.length : Int) then _ else sEnt ps i).1 ∧ _ = (if i = (ps.length : Int) then _ else sEnt ps i).2.1 ∧ _ = (if i = (ps.length : Int) then _ else sEnt ps i).2.2
          rw [if_neg he, o13, o14, ← hf1, hput_ne2 he, q13, ← hf2, hput_ne2 he, u14, ← hf3, hput_ne2 he, w15, f2o 15 _ (by decide), u15, f1o 14 _ (by decide), f1o 15 _ (by decide), q14, q15]
          exact T.2 i i0 (by omega)
    · right
      rw [if_neg ok]
      refine ⟨rfl, ?_⟩
      rw [rb, if_neg]
      intro z
      exact ok ⟨s1.1.mp z.1, s2.1.mp z.2.1, s3.1.mp z.2.2.1, z.2.2.2⟩
end
