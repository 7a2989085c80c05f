/-! test: the reference hears the steps -/
def EqB (a b : Int) : Prop := a = b ∨ (99999 ≤ a ∧ 99999 ≤ b)
def TrM (g : Hp) (ps : St) : Prop := g 121 60 = (ps.length : Int) ∧ ∀ i : Int, 0 ≤ i → i < (ps.length : Int) → EqB (g 156 (3 * i)) (sEnt ps i).1 ∧ (i = 0 → g 156 (3 * i + 1) = -1 ∧ g 156 (3 * i + 2) = -1) ∧ (i ≠ 0 → EqB (g 156 (3 * i + 1)) (sEnt ps i).2.1 ∧ EqB (g 156 (3 * i + 2)) (sEnt ps i).2.2)
def hr4 (f : Hp) : Option ((Hp) ⊕ ((Hp) ⊕ (Hp))) := if kK 121 = 11 then if f 121 61 = 0 then M_hears_j157 121 121 f else if f 121 25 = 4 then M_hears_j158 121 1 121 f else M_hears_j157 121 121 f else none
theorem hr_j136 (s0 s1 s2 : Int) (h : Hp) : M_hears_j136 121 s0 s1 s2 h = if kK s2 = 21 ∧ (0 : Int) ≤ s1 ∧ s1 < kL s2 then hr4 (hput h s2 s1 s0) else none := rfl
def hr3 (f : Hp) : Option ((Hp) ⊕ ((Hp) ⊕ (Hp))) := if kK 121 = 11 then if f 121 60 = 0 then M_hears_j136 121 ((-1)) (w32 ((w32 (3 * (f 121 60))) + 2)) (f 121 59) f else ob (M_hearsNumber 121 f) (fun r133 => M_hears_j136 121 r133.1 (w32 ((w32 (3 * (f 121 60))) + 2)) (f 121 59) r133.2) else none
theorem hr_j108 (s0 s1 s2 : Int) (h : Hp) : M_hears_j108 121 s0 s1 s2 h = if kK s2 = 21 ∧ (0 : Int) ≤ s1 ∧ s1 < kL s2 then hr3 (hput h s2 s1 s0) else none := rfl
def hr2 (f : Hp) : Option ((Hp) ⊕ ((Hp) ⊕ (Hp))) := if f 121 60 = 0 then M_hears_j108 121 ((-1)) (w32 ((w32 (3 * (f 121 60))) + 1)) (f 121 59) f else ob (M_hearsNumber 121 f) (fun r105 => M_hears_j108 121 r105.1 (w32 ((w32 (3 * (f 121 60))) + 1)) (f 121 59) r105.2)
def hr1 (c k v : Int) (f : Hp) : Option ((Hp) ⊕ ((Hp) ⊕ (Hp))) := if kK c = 21 ∧ (0 : Int) ≤ w32 (3 * k) ∧ w32 (3 * k) < kL c then hr2 (hput f c (w32 (3 * k)) v) else none
def hr0 (f : Hp) : Option ((Hp) ⊕ ((Hp) ⊕ (Hp))) := if kK 121 = 11 then if f 121 61 = 0 then some (.inr (.inl (f))) else ob (M_hearsNumber 121 f) (fun r77 => hr1 (f 121 59) (f 121 60) r77.1 r77.2) else none
theorem hr_j55 (s0 : Int) (h : Hp) : M_hears_j55 121 s0 121 h = if kK 121 = 11 then if s0 = 0 ∨ s0 = 1 then hr0 (hput h 121 61 s0) else none else none := rfl
section
variable {g g' : Hp} {tl : Int} {tp : Int → Int}
theorem kn_6 {P : Int} : knA tl tp P = 6 ↔ ddA tl tp P = true := by
  unfold knA ddA
  by_cases hd : isD (tpC tl tp P) = true
  · rw [if_pos hd]; exact ⟨fun _ => hd, fun _ => rfl⟩
  · rw [if_neg hd]
    constructor
    · intro z
      exfalso
      split at z
      · omega
      · split at z <;> omega
    · intro z; exact absurd z hd
theorem kn_4 {P : Int} : knA tl tp P = 4 ↔ tpC tl tp P = 59 := by
  unfold knA
  constructor
  · intro z
    split at z
    · omega
    · split at z
      · omega
      · split at z
        · assumption
        · omega
  · intro z
    rw [z, if_neg (by decide), if_neg (by decide), if_pos rfl]
theorem po_in (t0 : 0 ≤ tl) {P : Int} (P0 : 0 ≤ P) (P1 : P ≤ tl) : 0 ≤ blA tl tp (poA tl tp P) ∧ blA tl tp (poA tl tp P) ≤ tl := by
  have nl := nvN_le (tl := tl) (tp := tp) 99999 (tl - P).toNat P 0
  have po : 0 ≤ poA tl tp P ∧ poA tl tp P ≤ tl := by
    unfold poA
    by_cases h4 : knA tl tp P = 4
    · rw [if_pos h4]
      have : P < tl := by
        by_cases z : P < tl
        · exact z
        · have := kn_4.mp h4
          rw [tpC_out (by omega)] at this
          omega
      omega
    · rw [if_neg h4]; unfold nvA; omega
  have b := blA_le (tl := tl) (tp := tp) (poA tl tp P)
  have := b.2.1 po.2
  omega
theorem po_ee {P : Int} (h6 : ddA tl tp P = true) : blA tl tp (poA tl tp P) = eeA tl tp P ∧ EqB (nvA tl tp 99999 P).2 (vvA tl tp P) := by
  have two := nvN_two (tl := tl) (tp := tp) (tl - P).toNat P 0 0 (Or.inl rfl) (Int.le_refl _) (Int.le_refl _) (by decide) (by decide)
  have k6 := kn_6.mpr h6
  unfold poA eeA vvA nvA
  rw [if_neg (by omega), two.1]
  exact ⟨rfl, two.2.1⟩
theorem hr4_ok (E : HeE g tl tp) {P b k : Int} (T : TkS g tl tp P) (hb : g 121 61 = b) (b01 : b = 0 ∨ b = 1) (hk : g 121 60 = k) (k0 : 0 ≤ k) (k1 : k < 1000) (P0 : 0 ≤ P) (P1 : P ≤ tl) : ∃ g', hr4 g = some (.inl g') ∧ HeF g g' ∧ g' 121 61 = (if b = 1 ∧ knA tl tp P = 4 then 1 else 0) ∧ g' 121 60 = k + 1 ∧ g' 156 = g 156 ∧ TkS g' tl tp (blA tl tp (poA tl tp P)) := by
  have t0 := E.1.2.1
  have t1 := E.1.2.2
  have po : 0 ≤ poA tl tp P ∧ poA tl tp P ≤ 402 := by
    have nl := nvN_le (tl := tl) (tp := tp) 99999 (tl - P).toNat P 0
    unfold poA
    split
    · omega
    · unfold nvA; omega
  have fin : ∀ v, (v = 0 ∨ v = 1) → ∃ g', M_hears_j158 121 v 121 g = some (.inl g') ∧ HeF g g' ∧ g' 121 61 = v ∧ g' 121 60 = k + 1 ∧ g' 156 = g 156 ∧ TkS g' tl tp (blA tl tp (poA tl tp P)) := by
    intro v hv
    unfold M_hears_j158
    rw [if_pos kK_121, if_pos hv]
    simp only
    rw [if_pos kK_121, hput_ne2 (show (60 : Int) ≠ 61 by decide), hk, show w32 (k + 1) = k + 1 by unfold w32; omega]
    have Fh : HeF g (hput (hput g 121 61 v) 121 60 (k + 1)) := fun c s z1 z2 => by
      rcases z1 with z | z
      · rw [hput_ne1 z, hput_ne1 z]
      · rw [hput_ne2 z.2.2.2.2.1, hput_ne2 z.2.2.2.2.2]
    obtain ⟨g', x, F, t⟩ := numberToken_ok (HeE_f E Fh) (p := poA tl tp P) (by rw [hput_ne2 (by decide), hput_ne2 (by decide)]; exact T.2.2) po.1 po.2
    rw [x, ob_some]
    exact ⟨g', rfl, Fh.tr F.he, by rw [F 121 61 (Or.inr (by decide)), hput_ne2 (by decide), hput_eq], by rw [F 121 60 (Or.inr (by decide)), hput_eq], by funext s; rw [F 156 s (Or.inl (by decide)), hput_ne1 (by decide), hput_ne1 (by decide)], t⟩
  obtain ⟨a, xa, pa⟩ := fin 0 (Or.inl rfl)
  obtain ⟨c, xc, pc⟩ := fin 1 (Or.inr rfl)
  unfold hr4 M_hears_j157
  rw [if_pos kK_121, hb, T.1]
  by_cases h0 : b = 0
  · rw [if_pos h0, if_neg (by omega)]
    exact ⟨a, xa, pa⟩
  · rw [if_neg h0]
    by_cases h4 : knA tl tp P = 4
    · rw [if_pos h4, if_pos ⟨by omega, h4⟩]
      exact ⟨c, xc, pc⟩
    · rw [if_neg h4, if_neg (fun z => h4 z.2)]
      exact ⟨a, xa, pa⟩
theorem hr0_ok (E : HeE g tl tp) {ps : St} (Tr : TrM g ps) (k1 : ps.length < 40) {P : Int} (T : TkS g tl tp P) (hb : g 121 61 = 1) (P0 : 0 ≤ P) (P1 : P ≤ tl) : ∃ g', hr0 g = some (.inl g') ∧ HeF g g' ∧ ((∃ t p', stepA tl tp ps.length P = some (t, p') ∧ g' 121 61 = 1 ∧ TkS g' tl tp p' ∧ TrM g' (t :: ps)) ∨ (stepA tl tp ps.length P = none ∧ g' 121 61 = 0)) := by
  have t0 := E.1.2.1
  have t1 := E.1.2.2
  have kl : kL 156 = 120 := kL_156
  have y : ∀ j : Int, 0 ≤ j → j < 3 → kK 156 = 21 ∧ (0 : Int) ≤ 3 * (ps.length : Int) + j ∧ 3 * (ps.length : Int) + j < kL 156 := fun j a b => ⟨kK_156, by omega, by rw [kl]; omega⟩
  have w0 : w32 (3 * (ps.length : Int)) = 3 * (ps.length : Int) := by unfold w32; omega
  have w1 : w32 (3 * (ps.length : Int) + 1) = 3 * (ps.length : Int) + 1 := by unfold w32; omega
  have w2 : w32 (3 * (ps.length : Int) + 2) = 3 * (ps.length : Int) + 2 := by unfold w32; omega
  have y0 : kK 156 = 21 ∧ (0 : Int) ≤ 3 * (ps.length : Int) ∧ 3 * (ps.length : Int) < kL 156 := ⟨kK_156, by omega, by rw [kl]; omega⟩
  have y1 := y 1 (by decide) (by decide)
  have y2 := y 2 (by decide) (by decide)
  have i1 := po_in (tp := tp) t0 P0 P1
  obtain ⟨g1, x1, F1, b1, T1, n1, c1'⟩ := hearsNumber_ok E T hb (Or.inr rfl) P0 (by omega)
  unfold hr0
  rw [if_pos kK_121, hb, if_neg (by decide), x1, ob_some, E.2.2.1, Tr.1]
  show ∃ g', hr1 156 (ps.length : Int) (nvA tl tp 99999 P).2 g1 = _ ∧ _
  unfold hr1
  rw [w0, if_pos y0]
  generalize hf1 : hput g1 156 (3 * (ps.length : Int)) (nvA tl tp 99999 P).2 = f1
  have G1 : HeF g1 f1 := fun c s z1 z2 => by rw [← hf1]; exact hput_ne1 z2
  have Ef1 := HeE_f E (F1.tr G1)
  have f1o : ∀ s, f1 121 s = g1 121 s := fun s => by rw [← hf1]; exact hput_ne1 (by decide)
  have Tf1 : TkS f1 tl tp (blA tl tp (poA tl tp P)) := by unfold TkS at T1 ⊢; rw [f1o, f1o, f1o]; exact T1
  have f160 : f1 121 60 = (ps.length : Int) := by rw [f1o, n1]; exact Tr.1
  have bb : (if (1 : Int) = 1 ∧ knA tl tp P = 6 then (1 : Int) else 0) = 0 ∨ (if (1 : Int) = 1 ∧ knA tl tp P = 6 then (1 : Int) else 0) = 1 := by split <;> omega
  unfold hr2
  rw [f160, Ef1.2.2.1, w0, w1]
  by_cases hk : (ps.length : Int) = 0
  · have hk' : ps.length = 0 := by omega
    rw [if_pos hk, hr_j108, if_pos y1]
    unfold hr3
    generalize hf2 : hput f1 156 (3 * (ps.length : Int) + 1) (-1) = f2
    have G2 : HeF f1 f2 := fun c s z1 z2 => by rw [← hf2]; exact hput_ne1 z2
    have Ef2 := HeE_f Ef1 G2
    have f2o : ∀ s, f2 121 s = f1 121 s := fun s => by rw [← hf2]; exact hput_ne1 (by decide)
    rw [if_pos kK_121, f2o 60, f160, if_pos hk, w0, w2, Ef2.2.2.1, hr_j136, if_pos y2]
    generalize hf3 : hput f2 156 (3 * (ps.length : Int) + 2) (-1) = f3
    have G3 : HeF f2 f3 := fun c s z1 z2 => by rw [← hf3]; exact hput_ne1 z2
    have Ef3 := HeE_f Ef2 G3
    have f3o : ∀ s, f3 121 s = f1 121 s := fun s => by rw [← hf3, hput_ne1 (by decide)]; exact f2o s
    have Tf3 : TkS f3 tl tp (blA tl tp (poA tl tp P)) := by unfold TkS at Tf1 ⊢; rw [f3o, f3o, f3o]; exact Tf1
    obtain ⟨g', x', F', b', n', c', T'⟩ := hr4_ok Ef3 Tf3 (by rw [f3o, f1o]; exact b1) bb ((f3o 60).trans f160) (by omega) (by omega) i1.1 i1.2
    refine ⟨g', x', (((F1.tr G1).tr G2).tr G3).tr F', ?_⟩
    unfold stepA
    rw [if_pos hk']
    by_cases ok : ddA tl tp P = true ∧ tpC tl tp (eeA tl tp P) = 59
    · left
      have pe := po_ee ok.1
      have k4 : knA tl tp (blA tl tp (poA tl tp P)) = 4 := by rw [pe.1]; exact kn_4.mpr ok.2
      rw [if_pos ok]
      rw [if_pos (show (1 : Int) = 1 ∧ knA tl tp P = 6 from ⟨rfl, kn_6.mpr ok.1⟩), if_pos ⟨rfl, k4⟩] at b'
      have ep : poA tl tp (blA tl tp (poA tl tp P)) = eeA tl tp P + 1 := by
        unfold poA
        rw [show (if knA tl tp P = 4 then P + 1 else (nvA tl tp 99999 P).1) = poA tl tp P from rfl, if_pos k4, pe.1]
      rw [ep] at T'
      refine ⟨_, _, rfl, b', T', ?_, ?_⟩
      · rw [n']; show _ = ((ps.length + 1 : Nat) : Int); omega
      · intro i j0 j1
        have j1' : i < ((ps.length + 1 : Nat) : Int) := j1
        have hi : i = (ps.length : Int) := by omega
        subst hi
        rw [cons_ent, c']
        refine ⟨?_, fun _ => ⟨?_, ?_⟩, fun z => absurd hk z⟩
        · rw [← hf3, hput_ne2 (by omega), ← hf2, hput_ne2 (by omega), ← hf1, hput_eq]
          exact pe.2
        · rw [← hf3, hput_ne2 (by omega), ← hf2, hput_eq]
        · rw [← hf3, hput_eq]
    · right
      rw [if_neg ok]
      refine ⟨rfl, ?_⟩
      rw [b', if_neg]
      rintro ⟨z1, z2⟩
      have z3 : knA tl tp P = 6 := by
        by_cases z : (1 : Int) = 1 ∧ knA tl tp P = 6
        · exact z.2
        · rw [if_neg z] at z1; omega
      have d6 := kn_6.mp z3
      rw [(po_ee d6).1] at z2
      exact ok ⟨d6, kn_4.mp z2⟩
  · have hk' : ¬ ps.length = 0 := by omega
    have i2 := po_in (tp := tp) (P := blA tl tp (poA tl tp P)) t0 i1.1 i1.2
    have i3 := po_in (tp := tp) (P := blA tl tp (poA tl tp (blA tl tp (poA tl tp P)))) t0 i2.1 i2.2
    generalize hP1 : blA tl tp (poA tl tp P) = Q1 at *
    generalize hP2 : blA tl tp (poA tl tp Q1) = Q2 at *
    generalize hP3 : blA tl tp (poA tl tp Q2) = Q3 at *
    obtain ⟨g2, x2, F2, b2, T2, n2, c2'⟩ := hearsNumber_ok Ef1 Tf1 (show f1 121 61 = _ by rw [f1o]; exact b1) bb i1.1 (by omega)
    rw [if_neg hk, x2, ob_some]
    show ∃ g', M_hears_j108 121 (nvA tl tp 99999 Q1).2 (3 * (ps.length : Int) + 1) 156 g2 = _ ∧ _
    rw [hr_j108, if_pos y1]
    unfold hr3
    generalize hf2 : hput g2 156 (3 * (ps.length : Int) + 1) (nvA tl tp 99999 Q1).2 = f2
    have G2 : HeF g2 f2 := fun c s z1 z2 => by rw [← hf2]; exact hput_ne1 z2
    have Ef2 := HeE_f Ef1 (F2.tr G2)
    have f2o : ∀ s, f2 121 s = g2 121 s := fun s => by rw [← hf2]; exact hput_ne1 (by decide)
    rw [hP2] at T2
    have Tf2 : TkS f2 tl tp Q2 := by unfold TkS at T2 ⊢; rw [f2o, f2o, f2o]; exact T2
    have f260 : f2 121 60 = (ps.length : Int) := by rw [f2o, n2]; exact f160
    have bb2 : (if (if (1 : Int) = 1 ∧ knA tl tp P = 6 then (1 : Int) else 0) = 1 ∧ knA tl tp Q1 = 6 then (1 : Int) else 0) = 0 ∨ (if (if (1 : Int) = 1 ∧ knA tl tp P = 6 then (1 : Int) else 0) = 1 ∧ knA tl tp Q1 = 6 then (1 : Int) else 0) = 1 := by split <;> omega
    obtain ⟨g3, x3, F3, b3, T3, n3, c3'⟩ := hearsNumber_ok Ef2 Tf2 (show f2 121 61 = _ by rw [f2o]; exact b2) bb2 i2.1 (by omega)
    rw [if_pos kK_121, f260, if_neg hk, Ef2.2.2.1, x3, ob_some, w0, w2]
    show ∃ g', M_hears_j136 121 (nvA tl tp 99999 Q2).2 (3 * (ps.length : Int) + 2) 156 g3 = _ ∧ _
    rw [hr_j136, if_pos y2]
    generalize hf3 : hput g3 156 (3 * (ps.length : Int) + 2) (nvA tl tp 99999 Q2).2 = f3
    have G3 : HeF g3 f3 := fun c s z1 z2 => by rw [← hf3]; exact hput_ne1 z2
    have Ef3 := HeE_f Ef2 (F3.tr G3)
    have f3o : ∀ s, f3 121 s = g3 121 s := fun s => by rw [← hf3]; exact hput_ne1 (by decide)
    rw [hP3] at T3
    have Tf3 : TkS f3 tl tp Q3 := by unfold TkS at T3 ⊢; rw [f3o, f3o, f3o]; exact T3
    have bb3 : (if (if (if (1 : Int) = 1 ∧ knA tl tp P = 6 then (1 : Int) else 0) = 1 ∧ knA tl tp Q1 = 6 then (1 : Int) else 0) = 1 ∧ knA tl tp Q2 = 6 then (1 : Int) else 0) = 0 ∨ (if (if (if (1 : Int) = 1 ∧ knA tl tp P = 6 then (1 : Int) else 0) = 1 ∧ knA tl tp Q1 = 6 then (1 : Int) else 0) = 1 ∧ knA tl tp Q2 = 6 then (1 : Int) else 0) = 1 := by split <;> omega
    obtain ⟨g', x', F', b', n', c', T'⟩ := hr4_ok Ef3 Tf3 (by rw [f3o]; exact b3) bb3 ((f3o 60).trans (n3.trans f260)) (by omega) (by omega) i3.1 i3.2
    refine ⟨g', x', ((((F1.tr G1).tr (F2.tr G2)).tr (F3.tr G3))).tr F', ?_⟩
    have all : g' 121 61 = if knA tl tp P = 6 ∧ knA tl tp Q1 = 6 ∧ knA tl tp Q2 = 6 ∧ knA tl tp Q3 = 4 then 1 else 0 := by
      rw [b']
      by_cases z1 : knA tl tp P = 6
      · rw [if_pos (show (1 : Int) = 1 ∧ knA tl tp P = 6 from ⟨rfl, z1⟩)]
        by_cases z2 : knA tl tp Q1 = 6
        · rw [if_pos (show (1 : Int) = 1 ∧ knA tl tp Q1 = 6 from ⟨rfl, z2⟩)]
          by_cases z3 : knA tl tp Q2 = 6
          · rw [if_pos (show (1 : Int) = 1 ∧ knA tl tp Q2 = 6 from ⟨rfl, z3⟩)]
            by_cases z4 : knA tl tp Q3 = 4
            · rw [if_pos ⟨rfl, z4⟩, if_pos ⟨z1, z2, z3, z4⟩]
            · rw [if_neg (fun z => z4 z.2), if_neg (fun z => z4 z.2.2.2)]
          · rw [if_neg (show ¬ ((1 : Int) = 1 ∧ knA tl tp Q2 = 6) from fun z => z3 z.2), if_neg (by omega), if_neg (fun z => z3 z.2.2.1)]
        · rw [if_neg (show ¬ ((1 : Int) = 1 ∧ knA tl tp Q1 = 6) from fun z => z2 z.2), if_neg (show ¬ ((0 : Int) = 1 ∧ knA tl tp Q2 = 6) by omega), if_neg (by omega), if_neg (fun z => z2 z.2.1)]
      · rw [if_neg (show ¬ ((1 : Int) = 1 ∧ knA tl tp P = 6) from fun z => z1 z.2), if_neg (show ¬ ((0 : Int) = 1 ∧ knA tl tp Q1 = 6) by omega), if_neg (show ¬ ((0 : Int) = 1 ∧ knA tl tp Q2 = 6) by omega), if_neg (by omega), if_neg (fun z => z1 z.1)]
    unfold stepA
    rw [if_neg hk']
    by_cases ok : ddA tl tp P = true ∧ ddA tl tp (eeA tl tp P) = true ∧ ddA tl tp (eeA tl tp (eeA tl tp P)) = true ∧ tpC tl tp (eeA tl tp (eeA tl tp (eeA tl tp P))) = 59
    · left
      have pe1 := po_ee ok.1
      rw [hP1] at pe1
      have e1 : Q1 = eeA tl tp P := pe1.1
      have pe2 := po_ee (tl := tl) (tp := tp) (P := Q1) (by rw [e1]; exact ok.2.1)
      rw [hP2] at pe2
      have e2 : Q2 = eeA tl tp (eeA tl tp P) := by rw [← e1]; exact pe2.1
      have pe3 := po_ee (tl := tl) (tp := tp) (P := Q2) (by rw [e2]; exact ok.2.2.1)
      rw [hP3] at pe3
      have e3 : Q3 = eeA tl tp (eeA tl tp (eeA tl tp P)) := by rw [← e2]; exact pe3.1
      have k4 : knA tl tp Q3 = 4 := by rw [e3]; exact kn_4.mpr ok.2.2.2
      rw [if_pos ok]
      rw [if_pos ⟨kn_6.mpr ok.1, kn_6.mpr (by rw [e1]; exact ok.2.1), kn_6.mpr (by rw [e2]; exact ok.2.2.1), k4⟩] at all
      have ep : poA tl tp Q3 = eeA tl tp (eeA tl tp (eeA tl tp P)) + 1 := by
        unfold poA
        rw [if_pos k4, e3]
      rw [ep] at T'
      refine ⟨_, _, rfl, all, T', ?_, ?_⟩
      · rw [n']; show _ = ((ps.length + 1 : Nat) : Int); omega
      · intro i j0 j1
        have j1' : i < ((ps.length + 1 : Nat) : Int) := j1
        rw [c']
        by_cases he : i = (ps.length : Int)
        · subst he
          rw [cons_ent]
          refine ⟨?_, fun z => absurd z hk, fun _ => ⟨?_, ?_⟩⟩
          · rw [← hf3, hput_ne2 (by omega), c3', ← hf2, hput_ne2 (by omega), c2', ← hf1, hput_eq]
            exact pe1.2
          · rw [← hf3, hput_ne2 (by omega), c3', ← hf2, hput_eq]
            show EqB _ (vvA tl tp (eeA tl tp P))
            rw [← e1]; exact pe2.2
          · rw [← hf3, hput_eq]
            show EqB _ (vvA tl tp (eeA tl tp (eeA tl tp P)))
            rw [← e2]; exact pe3.2
        · have old : ∀ j : Int, j < 3 * (ps.length : Int) → f3 156 j = g 156 j := fun j hj => by
            rw [← hf3, hput_ne2 (by omega), c3', ← hf2, hput_ne2 (by omega), c2', ← hf1, hput_ne2 (by omega), c1']
          rw [old _ (by omega), old _ (by omega), old _ (by omega)]
          show EqB _ (if i = (ps.length : Int) then _ else sEnt ps i).1 ∧ _ ∧ (_ → EqB _ (if i = (ps.length : Int) then _ else sEnt ps i).2.1 ∧ EqB _ (if i = (ps.length : Int) then _ else sEnt ps i).2.2)
          rw [if_neg he]
          exact Tr.2 i j0 (by omega)
    · right
      rw [if_neg ok]
      refine ⟨rfl, ?_⟩
      rw [all, if_neg]
      rintro ⟨z1, z2, z3, z4⟩
      have d1 := kn_6.mp z1
      have pe1 := po_ee d1
      rw [hP1] at pe1
      have d2 := kn_6.mp z2
      have pe2 := po_ee d2
      rw [hP2] at pe2
      have d3 := kn_6.mp z3
      have pe3 := po_ee d3
      rw [hP3] at pe3
      refine ok ⟨d1, by rw [← pe1.1]; exact d2, by rw [← pe1.1, ← pe2.1]; exact d3, ?_⟩
      rw [← pe1.1, ← pe2.1, ← pe3.1]
      exact kn_4.mp z4
end
