/-! Math.max, min, abs; words of the tables by their places -/
def i_abs (a : Int) : Int := if 0 ≤ a then a else w32 (0 - a)
def zMM (own : String) (ix : Nat) (y : MethodName) (cc' : ByteArray) (maxL' : Nat) (ret' : Option FieldType) : Prop := Cond.methodLink own ix y ∈ lw_tbl ∧ Cond.static y ∈ lw_tbl ∧ Cond.initialized "java/lang/Math" ∈ lw_tbl ∧ Cond.code y cc' maxL' ret' ∈ lw_tbl
section MATH
variable {g : GP} {x : CX} {own : String} {cc : ByteArray} {nL d : Nat} {h : Hp} {pc : Nat} {ls : List (Nat × TV)} {st : List TV}
theorem i32_max {a b : Int} (ha : r32 a) (hb : r32 b) : (if i32 a < i32 b then i32 b else i32 a) = i32 (max a b) := by
  by_cases e : a < b
  · rw [if_pos ((i32_lt ha hb).mpr e), Int.max_eq_right (by omega)]
  · rw [if_neg (fun q => e ((i32_lt ha hb).mp q)), Int.max_eq_left (by omega)]
theorem r32_max {a b : Int} (ha : r32 a) (hb : r32 b) : r32 (max a b) := by unfold r32 at *; omega
theorem r32_min {a b : Int} (ha : r32 a) (hb : r32 b) : r32 (min a b) := by unfold r32 at *; omega
theorem r64_min {a b : Int} (ha : r64 a) (hb : r64 b) : r64 (min a b) := by unfold r64 at *; omega
theorem y_max (X : zX g x own cc nL (d + 1)) {ix : Nat} {a b : Int} (F : zMM own ix Lib.Math.max.name Lib.Math.max.code 2 (some .int)) (hd : decode cc pc = .ok (.invokestatic ix, 3)) (hw : z_wd st ≤ 8) (k : ZV g x nL h (pc + 3) ls ((0, max a b) :: st)) : ZV g x nL h pc ls ((0, b) :: (0, a) :: st) := by
  intro H locs lsA hP hR hS hl hol hos
  have hq := k H locs lsA hP hR hS hl hol (okI (r32_max (okI2 hos) (okI1 hos)) (okT (okT hos)))
  have hlo := X.2.2.2.2.2.2.2.2
  refine va_mmax X.1 X.2.1 (X.2.2.1.trans hl.1.symm) X.2.2.2.1 (X.2.2.2.2.1 _ F.1 rfl) (X.2.2.2.2.1 _ F.2.1 rfl) (X.2.2.2.2.1 _ F.2.2.1 rfl) (X.2.2.2.2.1 _ F.2.2.2 rfl) (Nat.le_trans (Nat.le_add_left 1 d) X.2.2.2.2.2.2.2.1) (by have := z_wd_cat g st; unfold z_st at this; omega) (Nat.zero_le _) (Nat.zero_le _) hd ?_
  rw [i32_max (okI2 hos) (okI1 hos)]
  exact hq
theorem i32_min {a b : Int} (ha : r32 a) (hb : r32 b) : (if i32 b < i32 a then i32 b else i32 a) = i32 (min a b) := by
  by_cases e : b < a
  · rw [if_pos ((i32_lt hb ha).mpr e), Int.min_eq_right (by omega)]
  · rw [if_neg (fun q => e ((i32_lt hb ha).mp q)), Int.min_eq_left (by omega)]
theorem y_min (X : zX g x own cc nL (d + 1)) {ix : Nat} {a b : Int} (F : zMM own ix Lib.Math.min.name Lib.Math.min.code 2 (some .int)) (hd : decode cc pc = .ok (.invokestatic ix, 3)) (hw : z_wd st ≤ 8) (k : ZV g x nL h (pc + 3) ls ((0, min a b) :: st)) : ZV g x nL h pc ls ((0, b) :: (0, a) :: st) := by
  intro H locs lsA hP hR hS hl hol hos
  have hq := k H locs lsA hP hR hS hl hol (okI (r32_min (okI2 hos) (okI1 hos)) (okT (okT hos)))
  have hlo := X.2.2.2.2.2.2.2.2
  refine va_mmin X.1 X.2.1 (X.2.2.1.trans hl.1.symm) X.2.2.2.1 (X.2.2.2.2.1 _ F.1 rfl) (X.2.2.2.2.1 _ F.2.1 rfl) (X.2.2.2.2.1 _ F.2.2.1 rfl) (X.2.2.2.2.1 _ F.2.2.2 rfl) (Nat.le_trans (Nat.le_add_left 1 d) X.2.2.2.2.2.2.2.1) (by have := z_wd_cat g st; unfold z_st at this; omega) (Nat.zero_le _) (Nat.zero_le _) hd ?_
  first | (rw [i32_min (okI2 hos) (okI1 hos)]; exact hq) | (rw [Classical.byContradiction fun z => z rfl]; exact hq)
theorem i64_min {a b : Int} (ha : r64 a) (hb : r64 b) : (if i64 b < i64 a then i64 b else i64 a) = i64 (min a b) := by
  by_cases e : b < a
  · rw [if_pos ((i64_lt hb ha).mpr e), Int.min_eq_right (by omega)]
  · rw [if_neg (fun q => e ((i64_lt hb ha).mp q)), Int.min_eq_left (by omega)]
theorem y_minL (X : zX g x own cc nL (d + 1)) {ix : Nat} {a b : Int} (F : zMM own ix Lib.MathLoose.min_long.x Lib.MathLoose.min_long.code 4 (some .long)) (hd : decode cc pc = .ok (.invokestatic ix, 3)) (hw : z_wd st ≤ 8) (k : ZV g x nL h (pc + 3) ls ((1, min a b) :: st)) : ZV g x nL h pc ls ((1, b) :: (1, a) :: st) := by
  intro H locs lsA hP hR hS hl hol hos
  have hq := k H locs lsA hP hR hS hl hol (okL (r64_min (okL2 hos) (okL1 hos)) (okT (okT hos)))
  have hlo := X.2.2.2.2.2.2.2.2
  refine va_mmin_long X.1 X.2.1 (X.2.2.1.trans hl.1.symm) X.2.2.2.1 (X.2.2.2.2.1 _ F.1 rfl) (X.2.2.2.2.1 _ F.2.1 rfl) (X.2.2.2.2.1 _ F.2.2.1 rfl) (X.2.2.2.2.1 _ F.2.2.2 rfl) (Nat.le_trans (Nat.le_add_left 1 d) X.2.2.2.2.2.2.2.1) (by have := z_wd_cat g st; unfold z_st at this; omega) (Nat.zero_le _) (Nat.zero_le _) hd ?_
  rw [i64_min (okL2 hos) (okL1 hos)]
  exact hq
theorem i32_abs {a : Int} (ha : r32 a) : (if 0 ≤ i32 a then i32 a else 0 - i32 a) = i32 (i_abs a) := by
  unfold i_abs
  by_cases e : 0 ≤ a
  · rw [if_pos ((z_0le ha).mpr e), if_pos e]
  · rw [if_neg (fun q => e ((z_0le ha).mp q)), if_neg e, ← i32_0, i32_sub]
theorem r32_abs {a : Int} (ha : r32 a) : r32 (i_abs a) := by
  unfold i_abs
  split
  · exact ha
  · exact w32_r _
theorem y_abs (X : zX g x own cc nL (d + 1)) {ix : Nat} {a : Int} (F : zMM own ix Lib.Math.abs.name Lib.Math.abs.code 1 (some .int)) (hd : decode cc pc = .ok (.invokestatic ix, 3)) (hw : z_wd st ≤ 8) (k : ZV g x nL h (pc + 3) ls ((0, i_abs a) :: st)) : ZV g x nL h pc ls ((0, a) :: st) := by
  intro H locs lsA hP hR hS hl hol hos
  have hq := k H locs lsA hP hR hS hl hol (okI (r32_abs (okI1 hos)) (okT hos))
  have hlo := X.2.2.2.2.2.2.2.2
  refine va_mabs X.1 X.2.1 (X.2.2.1.trans hl.1.symm) X.2.2.2.1 (X.2.2.2.2.1 _ F.1 rfl) (X.2.2.2.2.1 _ F.2.1 rfl) (X.2.2.2.2.1 _ F.2.2.1 rfl) (X.2.2.2.2.1 _ F.2.2.2 rfl) (Nat.le_trans (Nat.le_add_left 1 d) X.2.2.2.2.2.2.2.1) (by have := z_wd_cat g st; unfold z_st at this; omega) (Nat.zero_le _) (Nat.zero_le _) hd ?_
  rw [i32_abs (okI1 hos)]
  exact hq
end MATH
theorem mt0 {w : Cond} (h : w ∈ k2_sels lw_privs) : w ∈ lw_tbl := List.mem_append_left _ h
theorem mt1 {w : Cond} (h : w ∈ tables_1_1) : w ∈ lw_tbl := List.mem_append_right _ (List.mem_append_left _ h)
theorem mt2 {w : Cond} (h : w ∈ tables_1_2) : w ∈ lw_tbl := List.mem_append_right _ (List.mem_append_right _ (List.mem_append_left _ h))
theorem mt3 {w : Cond} (h : w ∈ tables_1_3) : w ∈ lw_tbl := List.mem_append_right _ (List.mem_append_right _ (List.mem_append_right _ (List.mem_append_left _ h)))
theorem mt4 {w : Cond} (h : w ∈ tables_1_4) : w ∈ lw_tbl := List.mem_append_right _ (List.mem_append_right _ (List.mem_append_right _ (List.mem_append_right _ (List.mem_append_left _ h))))
theorem mt5 {w : Cond} (h : w ∈ tables_1_5) : w ∈ lw_tbl := List.mem_append_right _ (List.mem_append_right _ (List.mem_append_right _ (List.mem_append_right _ (List.mem_append_right _ (List.mem_append_left _ h)))))
theorem mt6 {w : Cond} (h : w ∈ tables_1_6) : w ∈ lw_tbl := List.mem_append_right _ (List.mem_append_right _ (List.mem_append_right _ (List.mem_append_right _ (List.mem_append_right _ (List.mem_append_right _ (List.mem_append_left _ h))))))
theorem mt7 {w : Cond} (h : w ∈ tables_1_7) : w ∈ lw_tbl := List.mem_append_right _ (List.mem_append_right _ (List.mem_append_right _ (List.mem_append_right _ (List.mem_append_right _ (List.mem_append_right _ (List.mem_append_right _ (List.mem_append_left _ h)))))))
theorem mt8 {w : Cond} (h : w ∈ tables_1_8) : w ∈ lw_tbl := List.mem_append_right _ (List.mem_append_right _ (List.mem_append_right _ (List.mem_append_right _ (List.mem_append_right _ (List.mem_append_right _ (List.mem_append_right _ (List.mem_append_right _ h)))))))
theorem mtF {ws : List Cond} (h : ∀ w ∈ ws, w ∈ lw_tbl) : ∀ w ∈ ws, w ∈ lw_tbl := h
