/-! test: whether the letters are those of the sentence -/
def lkL (n : Int) (row : Int → Int) (l : List Int) : Prop := (l.length : Int) = n ∧ ∀ (i : Nat) (v : Int), l[i]? = some v → v = row i
section
variable {h g : Hp} {P o8 n : Int} {G : Gm} {row : Int → Int} {l : List Int}
theorem like_cl (X : LetX h n row) (e0 : h 80 0 = 81) (T : ByT h 80 81 576 l) (hl : l.length ≤ 576) (hv : ∀ v ∈ l, 0 ≤ v ∧ v < 26) : ∃ v, By_isLike 80 5 h = some v ∧ ((v = 1 ∧ lkL n row l) ∨ (v = 0 ∧ ¬ lkL n row l)) := by
  have n8 : 0 ≤ n ∧ n ≤ 8 := ⟨X.2.2.1, X.2.2.2.1⟩
  have e1 : h 80 1 = (l.length : Int) := by
    rw [T.1, Nat.min_eq_left hl]
  have e5 : h 5 1 = n := X.2.1
  unfold By_isLike By_isLike_j16
  rw [if_pos (show kK 80 = 0 by decide), if_pos (show kK 5 = 0 by decide), e1, e5]
  obtain ⟨r, e, q⟩ := loop_ok (body := fun q => By_isLike_L19 80 5 h q.1 q.2) (fun q => 0 ≤ q.2 ∧ q.2 ≤ (l.length : Int) ∧ ((q.1 = 1 ∧ (l.length : Int) = n ∧ ∀ (i : Nat) (v : Int), (i : Int) < q.2 → l[i]? = some v → v = row i) ∨ (q.1 = 0 ∧ ¬ lkL n row l))) (fun q => (600 - q.2).toNat) (fun r => (r = 1 ∧ lkL n row l) ∨ (r = 0 ∧ ¬ lkL n row l)) (by
    rintro ⟨a, x⟩ ⟨x0, x1, hx⟩
    simp only at x0 x1 hx
    simp only
    unfold By_isLike_L19
    rw [if_pos (show kK 80 = 0 by decide), e1]
    by_cases hd : (l.length : Int) ≤ x
    · right
      rw [if_pos hd]
      refine ⟨_, rfl, ?_⟩
      rcases hx with ⟨z1, z2, z3⟩ | z
      · exact Or.inl ⟨z1, z2, fun i v hi => z3 i v (by have := (List.getElem?_eq_some_iff.mp hi).1; omega) hi⟩
      · exact Or.inr z
    · rw [if_neg hd]
      rcases hx with ⟨z1, z2, z3⟩ | ⟨z1, z2⟩
      · left
        subst z1
        obtain ⟨k, rfl⟩ : ∃ k : Nat, x = (k : Int) := ⟨x.toNat, by omega⟩
        have hk : k < l.length := by omega
        have hg : l[k]? = some l[k] := List.getElem?_eq_getElem hk
        have hb := hv _ (List.getElem_mem hk)
        rw [if_neg (by decide), By_at_T (by decide) (by decide) (by decide) e0 T hg (by omega) hb.1 (by omega), ob_some, if_pos (show kK 5 = 0 by decide), By_at_let X x0 (by omega), ob_some]
        unfold By_isLike_j49
        refine ⟨(if l[k] = row k then 1 else 0, (k : Int) + 1), by rw [show w32 ((k : Int) + 1) = (k : Int) + 1 by unfold w32; omega], ⟨by simp only; omega, by simp only; omega, ?_⟩, by simp only; omega⟩
        simp only
        by_cases he : l[k] = row k
        · left
          rw [if_pos he]
          refine ⟨rfl, z2, fun i v hi hs => ?_⟩
          by_cases hik : i = k
          · subst hik
            rw [hg] at hs
            injection hs with hs
            rw [← hs]; exact he
          · exact z3 i v (by omega) hs
        · right
          rw [if_neg he]
          exact ⟨rfl, fun w => he (w.2 k _ hg)⟩
      · right
        rw [if_pos z1]
        exact ⟨_, rfl, Or.inr ⟨z1, z2⟩⟩) LN (if (l.length : Int) = n then 1 else 0, 0) (by
      refine ⟨Int.le_refl 0, by simp only; omega, ?_⟩
      simp only
      by_cases hq : (l.length : Int) = n
      · rw [if_pos hq]
        exact Or.inl ⟨rfl, hq, fun i v hi _ => by omega⟩
      · rw [if_neg hq]
        exact Or.inr ⟨rfl, fun z => hq z.1⟩) (by unfold LN; simp only; omega)
  rw [e, ob_some]
  refine ⟨r, ?_, q⟩
  rw [if_pos (by rcases q with z | z; exact Or.inr z.1; exact Or.inl z.1)]
theorem told_rf (B : BM g G o8 n row) (T : TeM g (l.map (fun v => v + 97))) (hl : l.length ≤ 576) : ∃ v, M_isSentenceTold 121 g = some v ∧ ((v = 1 ∧ lkL n row l) ∨ (v = 0 ∧ ¬ lkL n row l)) := by
  have X := bm_L B
  have n8 : 0 ≤ n ∧ n ≤ 8 := ⟨X.2.1, X.2.2.1⟩
  have e57 : g 121 57 = (l.length : Int) := by
    have := T.1
    rw [List.length_map] at this
    exact this
  have e56 : g 121 56 = 155 := T.2.1
  unfold M_isSentenceTold
  rw [if_pos kK_121, e57, X.1]
  by_cases hq : (l.length : Int) = n
  · rw [if_pos hq]
    obtain ⟨r, e, q⟩ := loop_ok (body := fun q => M_isSentenceTold_L15 121 g q) (fun q => 0 ≤ q ∧ q ≤ (l.length : Int) ∧ ∀ (i : Nat) (v : Int), (i : Int) < q → l[i]? = some v → v = row i) (fun q => (600 - q).toNat) (fun r => (r = .inr () ∧ lkL n row l) ∨ (r = .inl () ∧ ¬ lkL n row l)) (by
      rintro x ⟨x0, x1, hx⟩
      unfold M_isSentenceTold_L15
      rw [if_pos kK_121, e57]
      by_cases hd : (l.length : Int) ≤ x
      · right
        rw [if_pos hd]
        exact ⟨_, rfl, Or.inl ⟨rfl, hq, fun i v hi => hx i v (by have := (List.getElem?_eq_some_iff.mp hi).1; omega) hi⟩⟩
      · obtain ⟨k, rfl⟩ : ∃ k : Nat, x = (k : Int) := ⟨x.toNat, by omega⟩
        have hk : k < l.length := by omega
        have hg : l[k]? = some l[k] := List.getElem?_eq_getElem hk
        have hm : (l.map (fun v => v + 97))[k]? = some (l[k] + 97) := by rw [List.getElem?_map, hg]; rfl
        have t := T.2.2 k _ hm
        have lt := X.2.2.2 (k : Int) x0 (by omega)
        have ew : w32 (97 + row k) = 97 + row k := by
          have := lt.2
          unfold w32
          omega
        rw [if_neg hd, e56, if_pos (show kK 155 = 20 ∧ (0 : Int) ≤ (k : Int) ∧ (k : Int) < kL 155 from ⟨by decide, x0, by rw [kL_155]; omega⟩), ms_at (bm_S B) (show ((31 : Int), (137 : Int)) ∈ msL by decide), if_pos (show kK 137 = 21 ∧ (0 : Int) ≤ (k : Int) ∧ (k : Int) < kL 137 from ⟨by decide, x0, by rw [kL_137]; omega⟩), t, lt.1, ew]
        by_cases he : l[k] + 97 = 97 + row k
        · left
          rw [if_pos he]
          refine ⟨(k : Int) + 1, by rw [show w32 ((k : Int) + 1) = (k : Int) + 1 by unfold w32; omega], ⟨by omega, by omega, fun i v hi hs => ?_⟩, by omega⟩
          by_cases hik : i = k
          · subst hik
            rw [hg] at hs
            injection hs with hs
            rw [← hs]; omega
          · exact hx i v (by omega) hs
        · right
          rw [if_neg he]
          exact ⟨_, rfl, Or.inr ⟨rfl, fun w => he (by have := w.2 k _ hg; omega)⟩⟩) LN 0 ⟨Int.le_refl 0, by omega, fun i v hi _ => by omega⟩ (by unfold LN; omega)
    rw [e, ob_some]
    rcases q with ⟨rfl, z⟩ | ⟨rfl, z⟩
    · exact ⟨1, rfl, Or.inl ⟨rfl, z⟩⟩
    · exact ⟨0, rfl, Or.inr ⟨rfl, z⟩⟩
  · rw [if_neg hq]
    exact ⟨0, rfl, Or.inr ⟨rfl, fun z => hq z.1⟩⟩
end
