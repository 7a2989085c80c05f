/-! test: the text is read by the class; tokens of the reference -/
section
variable (tl : Int) (tp : Int → Int)
def parN : Nat → Int → St → Option St
  | 0, _, _ => none
  | f + 1, p, ps => if tl ≤ p then some ps else if 40 ≤ ps.length then none else match stepA tl tp ps.length p with
    | none => none
    | some (t, p') => parN f p' (t :: ps)
def parA : Option St := if tl ≤ blA tl tp 0 then none else parN tl tp 42 (blA tl tp 0) []
/-- kinds of tokens; where the next is sought -/
def knA (P : Int) : Int := if isD (tpC tl tp P) then 6 else if tpC tl tp P = -1 then 0 else if tpC tl tp P = 59 then 4 else 5
def poA (P : Int) : Int := if knA tl tp P = 4 then P + 1 else (nvA tl tp 99999 P).1
end
section
variable {h h' : Hp} {tl : Int} {tp : Int → Int}
theorem stepA_in (t0 : 0 ≤ tl) {k : Nat} {p p' : Int} {t : Int × Int × Int} (p0 : 0 ≤ p) (p1 : p ≤ tl) (h : stepA tl tp k p = some (t, p')) : 0 ≤ p' ∧ p' ≤ tl ∧ (0 ≤ t.1 ∧ t.1 ≤ 1000000) ∧ (0 ≤ t.2.1 ∧ t.2.1 ≤ 1000000) ∧ (0 ≤ t.2.2 ∧ t.2.2 ≤ 1000000) := by
  have i1 := eeA_in (tp := tp) t0 p0 p1
  have i2 := eeA_in (tp := tp) (p := eeA tl tp p) t0 (by omega) i1.2
  have i3 := eeA_in (tp := tp) (p := eeA tl tp (eeA tl tp p)) t0 (by omega) i2.2
  have fin : ∀ q, 0 ≤ q → q ≤ tl → tpC tl tp q = 59 → 0 ≤ blA tl tp (q + 1) ∧ blA tl tp (q + 1) ≤ tl := by
    intro q q0 q1 hq
    have ql : q < tl := by
      by_cases z : q < tl
      · exact z
      · rw [tpC_out (by omega)] at hq; omega
    have b := blA_le (tl := tl) (tp := tp) (q + 1)
    have := b.2.1 (by omega)
    have := b.1
    omega
  unfold stepA at h
  by_cases hk : k = 0
  · rw [if_pos hk] at h
    by_cases ok : ddA tl tp p = true ∧ tpC tl tp (eeA tl tp p) = 59
    · rw [if_pos ok] at h
      injection h with h
      injection h with e1 e2
      subst e1 e2
      have := fin _ (by omega) i1.2 ok.2
      exact ⟨this.1, this.2, vvA_in p, ⟨Int.le_refl _, by show (0 : Int) ≤ 1000000; decide⟩, ⟨Int.le_refl _, by show (0 : Int) ≤ 1000000; decide⟩⟩
    · rw [if_neg ok] at h; exact absurd h (by simp)
  · rw [if_neg hk] at h
    by_cases ok : ddA tl tp p = true ∧ ddA tl tp (eeA tl tp p) = true ∧ ddA tl tp (eeA tl tp (eeA tl tp p)) = true ∧ tpC tl tp (eeA tl tp (eeA tl tp (eeA tl tp p))) = 59
    · rw [if_pos ok] at h
      injection h with h
      injection h with e1 e2
      subst e1 e2
      have := fin _ (by omega) i3.2 ok.2.2.2
      exact ⟨this.1, this.2, vvA_in p, vvA_in _, vvA_in _⟩
    · rw [if_neg ok] at h; exact absurd h (by simp)
def rt1 (good : Int) (f : Hp) : Option (Int × Hp) := ob (loopN (fun q => SR_readText_L44 10 q.1 q.2.1 q.2.2) LN (good, 0, f)) (fun e96 => if e96.1 = 0 ∨ e96.1 = 1 then some (e96.1, e96.2) else none)
def rt0 (f : Hp) : Option (Int × Hp) := if kK (f 10 0) = 0 then rt1 (if f (f 10 0) 1 ≤ f 10 3 then 0 else 1) f else none
def rtL (l3 : Int) (r : Int) (f : Hp) : Option ((Int × Int × Hp) ⊕ (Int × Hp)) := if r = 0 then SR_readText_j88 10 l3 f else SR_readText_j89 10 l3 1 f
theorem L44_eq (l2 l3 : Int) (h : Hp) : SR_readText_L44 10 l2 l3 h = if 40 < l3 then some (.inr (l2, h)) else if l2 = 0 then some (.inr (l2, h)) else if kK (10 : Int) = 6 then if kK (h 10 0) = 0 then if h (h 10 0) 1 ≤ h 10 3 then some (.inr (l2, h)) else if 40 ≤ h 10 4 then SR_readText_j88 10 l3 h else ob (SR_readStep 10 h) (fun r78 => rtL l3 r78.1 r78.2) else none else none := rfl
theorem readText_eq (h : Hp) : SR_readText 10 1 h = if kK (10 : Int) = 6 then if kK ((hput (hput h 10 0 1) 10 4 0) 10 0) = 0 then ob (By_afterBlanks ((hput (hput h 10 0 1) 10 4 0) 10 0) 0 (hput (hput h 10 0 1) 10 4 0)) (fun r16 => rt0 (hput (hput (hput h 10 0 1) 10 4 0) 10 3 r16)) else none else none := rfl
theorem readText_ok (T : TapX h tl tp) (e1 : h 1 0 = 2) (e5 : h 10 5 = 13) (e6 : h 10 6 = 14) (e7 : h 10 7 = 15) : ∃ b h', SR_readText 10 1 h = some (b, h') ∧ (∀ c s, (c ≠ 10 ∨ (s ≠ 0 ∧ s ≠ 3 ∧ s ≠ 4)) → c ≠ 13 → c ≠ 14 → c ≠ 15 → h' c s = h c s) ∧ h' 10 0 = 1 ∧ ((∃ ps, parA tl tp = some ps ∧ b = 1 ∧ TrX h' ps) ∨ (parA tl tp = none ∧ b = 0)) := by
  have t0 := T.2.1
  have t1 := T.2.2.1
  rw [readText_eq, if_pos kK_10]
  generalize hf : hput (hput h 10 0 1) 10 4 0 = f
  have fo : ∀ c s, (c ≠ 10 ∨ (s ≠ 0 ∧ s ≠ 4)) → f c s = h c s := by
    intro c s z
    rw [← hf]
    rcases z with z | z
    · rw [hput_ne1 z, hput_ne1 z]
    · rw [hput_ne2 z.2, hput_ne2 z.1]
  have f0 : f 10 0 = 1 := by rw [← hf, hput_ne2 (by decide), hput_eq]
  have f4 : f 10 4 = 0 := by rw [← hf, hput_eq]
  have Tf : TapX f tl tp := by
    unfold TapX at T ⊢
    rw [fo 1 1 (Or.inl (by decide))]
    exact ⟨T.1, T.2.1, T.2.2.1, fun i a b => by rw [fo 2 i (Or.inl (by decide))]; exact T.2.2.2 i a b⟩
  have Ef : SrE f tl tp := ⟨Tf, by rw [fo 1 0 (Or.inl (by decide))]; exact e1, f0, by rw [fo 10 5 (Or.inr (by decide))]; exact e5, by rw [fo 10 6 (Or.inr (by decide))]; exact e6, by rw [fo 10 7 (Or.inr (by decide))]; exact e7⟩
  have bl := blA_le (tl := tl) (tp := tp) 0
  rw [f0, if_pos (show kK 1 = 0 by decide), sr_blanks Ef (Int.le_refl _), ob_some]
  generalize hm : hput f 10 3 (blA tl tp 0) = m
  have Fm : SrF f m := fun c s z1 z2 z3 z4 => by
    rw [← hm]
    rcases z1 with z | z
    · exact hput_ne1 z
    · exact hput_ne2 z.1
  have Em := SrE_f Ef Fm
  have m3 : m 10 3 = blA tl tp 0 := by rw [← hm, hput_eq]
  have m4 : m 10 4 = 0 := by rw [← hm, hput_ne2 (by decide)]; exact f4
  unfold rt0
  rw [Em.2.2.1, if_pos (show kK 1 = 0 by decide), Em.1.1, m3]
  have b0 : (if tl ≤ blA tl tp 0 then (0 : Int) else 1) = 0 ∨ (if tl ≤ blA tl tp 0 then (0 : Int) else 1) = 1 := by split <;> omega
  have lp : ∃ b h', loopN (fun q => SR_readText_L44 10 q.1 q.2.1 q.2.2) LN ((if tl ≤ blA tl tp 0 then (0 : Int) else 1), 0, m) = some (b, h') ∧ SrF m h' ∧ ((∃ ps, parA tl tp = some ps ∧ b = 1 ∧ TrX h' ps) ∨ (parA tl tp = none ∧ b = 0)) := by
    obtain ⟨r, e, q1, q2⟩ := loop_ok (body := fun q => SR_readText_L44 10 q.1 q.2.1 q.2.2) (fun q => 0 ≤ q.2.1 ∧ q.2.1 ≤ 41 ∧ SrF m q.2.2 ∧ ((q.1 = 0 ∧ parA tl tp = none) ∨ (q.1 = 1 ∧ ∃ ps p, TrX q.2.2 ps ∧ (ps.length : Int) = q.2.1 ∧ ps.length ≤ 40 ∧ q.2.2 10 3 = p ∧ 0 ≤ p ∧ p ≤ tl ∧ parA tl tp = parN tl tp (42 - ps.length) p ps))) (fun q => (100 - q.2.1).toNat) (fun r => SrF m r.2 ∧ ((∃ ps, parA tl tp = some ps ∧ r.1 = 1 ∧ TrX r.2 ps) ∨ (parA tl tp = none ∧ r.1 = 0))) (by
      rintro ⟨a, x, g⟩ ⟨x0, x1, fr, st⟩
      simp only at x0 x1 fr st
      show (∃ s', SR_readText_L44 10 a x g = _ ∧ _) ∨ (∃ r, SR_readText_L44 10 a x g = _ ∧ _)
      have Eg := SrE_f Em fr
      rw [L44_eq]
      rcases st with ⟨s1, s2⟩ | ⟨s1, ps, p, s2, s3, s4, s5, s6, s7, s8⟩
      · right
        subst s1
        by_cases h40 : 40 < x
        · rw [if_pos h40]; exact ⟨_, rfl, fr, Or.inr ⟨s2, rfl⟩⟩
        · rw [if_neg h40, if_pos rfl]; exact ⟨_, rfl, fr, Or.inr ⟨s2, rfl⟩⟩
      · subst s1
        obtain ⟨fu, hfu⟩ : ∃ fu : Nat, 42 - ps.length = fu + 1 := ⟨41 - ps.length, by omega⟩
        have ep : parN tl tp (42 - ps.length) p ps = if tl ≤ p then some ps else if 40 ≤ ps.length then none else match stepA tl tp ps.length p with
            | none => none
            | some (t, p') => parN tl tp fu p' (t :: ps) := by rw [hfu]; rfl
        rw [if_neg (by omega), if_neg (by decide), if_pos kK_10, Eg.2.2.1, if_pos (show kK 1 = 0 by decide), Eg.1.1, s5]
        by_cases hl : tl ≤ p
        · right
          rw [if_pos hl]
          rw [ep, if_pos hl] at s8
          exact ⟨_, rfl, fr, Or.inl ⟨ps, s8, rfl, s2⟩⟩
        · left
          rw [if_neg hl, s2.1]
          rw [ep, if_neg hl] at s8
          by_cases h40 : (40 : Int) ≤ (ps.length : Int)
          · rw [if_pos h40]
            rw [if_pos (show 40 ≤ ps.length by omega)] at s8
            unfold SR_readText_j88 SR_readText_j89
            rw [show w32 (x + 1) = x + 1 by unfold w32; omega]
            exact ⟨_, rfl, ⟨by simp only; omega, by simp only; omega, fr, Or.inl ⟨rfl, s8⟩⟩, by simp only; omega⟩
          · rw [if_neg h40]
            rw [if_neg (show ¬ 40 ≤ ps.length by omega)] at s8
            obtain ⟨b, g', y, F', ys⟩ := readStep_ok Eg s2 (by omega) s5 s6 (by omega)
            rw [y, ob_some]
            show ∃ s', rtL x b g' = _ ∧ _
            unfold rtL SR_readText_j88 SR_readText_j89
            rw [show w32 (x + 1) = x + 1 by unfold w32; omega]
            rcases ys with ⟨t, p', y1, y2, y3, y4⟩ | ⟨y1, y2⟩
            · subst y2
              rw [if_neg (by decide)]
              rw [y1] at s8
              have si := stepA_in t0 s6 (by omega) y1
              refine ⟨_, rfl, ⟨by simp only; omega, by simp only; omega, fr.tr F', Or.inr ⟨rfl, t :: ps, p', y4, ?_, ?_, y3, si.1, si.2.1, ?_⟩⟩, by simp only; omega⟩
              · show ((ps.length + 1 : Nat) : Int) = x + 1; omega
              · show ps.length + 1 ≤ 40; omega
              · rw [s8, show 42 - (t :: ps).length = fu by show 42 - (ps.length + 1) = fu; omega]
            · subst y2
              rw [if_pos rfl]
              rw [y1] at s8
              exact ⟨_, rfl, ⟨by simp only; omega, by simp only; omega, fr.tr F', Or.inl ⟨rfl, s8⟩⟩, by simp only; omega⟩) LN ((if tl ≤ blA tl tp 0 then (0 : Int) else 1), 0, m) ⟨Int.le_refl _, by simp only; omega, SrF.rf, by
        simp only
        by_cases hl : tl ≤ blA tl tp 0
        · left
          rw [if_pos hl]
          exact ⟨rfl, by unfold parA; rw [if_pos hl]⟩
        · right
          rw [if_neg hl]
          refine ⟨rfl, [], blA tl tp 0, ⟨m4, fun i a b => ?_⟩, rfl, by show 0 ≤ 40; omega, m3, bl.1, bl.2.1 t0, by unfold parA; rw [if_neg hl]; rfl⟩
          have : i < ((0 : Nat) : Int) := b
          omega⟩ (by unfold LN; simp only; omega)
    exact ⟨r.1, r.2, e, q1, q2⟩
  obtain ⟨b, h', x', F', st⟩ := lp
  unfold rt1
  rw [x', ob_some]
  have hb : b = 0 ∨ b = 1 := by
    rcases st with ⟨ps, -, z, -⟩ | ⟨-, z⟩ <;> omega
  dsimp only
  rw [if_pos hb]
  have E' := SrE_f Em F'
  exact ⟨b, h', rfl, fun c s z1 z2 z3 z4 => by rw [F' c s (z1.elim Or.inl (fun z => Or.inr ⟨z.2.1, z.2.2⟩)) z2 z3 z4, Fm c s (z1.elim Or.inl (fun z => Or.inr ⟨z.2.1, z.2.2⟩)) z2 z3 z4, fo c s (z1.elim Or.inl (fun z => Or.inr ⟨z.1, z.2.2⟩))], E'.2.2.1, st⟩
end
