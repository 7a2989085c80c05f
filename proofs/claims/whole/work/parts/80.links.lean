theorem r32c {v : Int} (h : -2147483648 ≤ v ∧ v < 2147483648) : r32 v := h
theorem r64c {v : Int} (h : -9223372036854775808 ≤ v ∧ v < 9223372036854775808) : r64 v := h
theorem inX1 : ∀ w ∈ u_ws RX1 TX1 2, w ∈ lw_tbl := z_inl [180, 182] (by decide +kernel)
theorem inX2 : ∀ w ∈ u_ws RX2 TX2 6, w ∈ lw_tbl := z_inl [431, 433, 435, 437, 439, 441] (by decide +kernel)
theorem inX4 : ∀ w ∈ u_ws RX4 TX4 19, w ∈ lw_tbl := z_inl [382, 384, 386, 388, 390, 392, 394, 396, 398, 400, 402, 404, 406, 408, 410, 412, 414, 416, 418] (by decide +kernel)
theorem fl_RX1_15 : zFL RX1 15 0 0 true 2 2 := ⟨0, rfl, rfl, RX1, TX1, 2, tyX1, rfl, by decide, List.mem_of_getElem? (i := 172) (by decide +kernel), inX1, tyX1_ok, nmX1, rfl, rfl, rfl, by decide⟩
theorem fl_RX1_21 : zFL RX1 21 0 1 false 0 0 := ⟨1, rfl, rfl, RX1, TX1, 2, tyX1, rfl, by decide, List.mem_of_getElem? (i := 174) (by decide +kernel), inX1, tyX1_ok, nmX1, rfl, rfl, rfl, by decide⟩
theorem kc_m1 : r32 (-1) := r32c (by decide)
theorem ks_255 : (Int16.ofInt 255).toInt32 = i32 255 := by decide
theorem kc_255 : r32 255 := r32c (by decide)
theorem kc_1 : r32 1 := r32c (by decide)
theorem kb_24 : (Int8.ofInt 24).toInt32 = i32 24 := by decide
theorem kc_24 : r32 24 := r32c (by decide)
theorem cv_RX1_25 : zCV RX1 25 0 yX1_add cX1_add 2 none 1 := ⟨RX1, TX1, 2, rfl, by decide, List.mem_of_getElem? (i := 637) (by decide +kernel), List.mem_of_getElem? (i := 638) (by decide +kernel), List.mem_of_getElem? (i := 639) (by decide +kernel), List.mem_of_getElem? (i := 140) (by decide +kernel), List.mem_of_getElem? (i := 640) (by decide +kernel), ⟨rfl, by decide, by decide, by decide⟩, by decide⟩
theorem kb_16 : (Int8.ofInt 16).toInt32 = i32 16 := by decide
theorem kc_16 : r32 16 := r32c (by decide)
theorem kb_8 : (Int8.ofInt 8).toInt32 = i32 8 := by decide
theorem kc_8 : r32 8 := r32c (by decide)
theorem kb_10 : (Int8.ofInt 10).toInt32 = i32 10 := by decide
theorem kc_10 : r32 10 := r32c (by decide)
theorem kb_48 : (Int8.ofInt 48).toInt32 = i32 48 := by decide
theorem kc_48 : r32 48 := r32c (by decide)
theorem kc_0 : r32 0 := r32c (by decide)
theorem cv_RX1_29 : zCV RX1 29 0 yX1_at cX1_at 2 (some .int) 1 := ⟨RX1, TX1, 2, rfl, by decide, List.mem_of_getElem? (i := 1191) (by decide +kernel), List.mem_of_getElem? (i := 673) (by decide +kernel), List.mem_of_getElem? (i := 674) (by decide +kernel), List.mem_of_getElem? (i := 140) (by decide +kernel), List.mem_of_getElem? (i := 675) (by decide +kernel), ⟨rfl, by decide, by decide, by decide⟩, by decide⟩
theorem kb_32 : (Int8.ofInt 32).toInt32 = i32 32 := by decide
theorem kc_32 : r32 32 := r32c (by decide)
theorem kt_RX2_45 : Cond.fieldLink RX2 45 "CrossReader$Chart" "BY_J" "[I" ∈ lw_tbl := List.mem_of_getElem? (i := 845) (by decide +kernel)
theorem kt_RX2_48 : Cond.fieldLink RX2 48 "CrossReader$Chart" "BY_Q" "[I" ∈ lw_tbl := List.mem_of_getElem? (i := 864) (by decide +kernel)
theorem kt_RX2_51 : Cond.fieldLink RX2 51 "CrossReader$Chart" "BY_P" "[I" ∈ lw_tbl := List.mem_of_getElem? (i := 866) (by decide +kernel)
theorem kc_2 : r32 2 := r32c (by decide)
theorem fl_RX2_12 : zFL RX2 12 1 0 false 2 2 := ⟨0, rfl, rfl, RX2, TX2, 6, tyX2, rfl, by decide, List.mem_of_getElem? (i := 423) (by decide +kernel), inX2, tyX2_ok, nmX2, rfl, rfl, rfl, by decide⟩
theorem fl_RX2_41 : zFL RX2 41 3 8 true 2 2 := ⟨8, rfl, rfl, RX4, TX4, 19, tyX4, rfl, by decide, List.mem_of_getElem? (i := 331) (by decide +kernel), inX4, tyX4_ok, nmX4, rfl, rfl, rfl, by decide⟩
theorem ks_495 : (Int16.ofInt 495).toInt32 = i32 495 := by decide
theorem kc_495 : r32 495 := r32c (by decide)
theorem fl_RX2_26 : zFL RX2 26 3 1 false 0 0 := ⟨1, rfl, rfl, RX4, TX4, 19, tyX4, rfl, by decide, List.mem_of_getElem? (i := 309) (by decide +kernel), inX4, tyX4_ok, nmX4, rfl, rfl, rfl, by decide⟩
theorem fl_RX2_30 : zFL RX2 30 1 1 false 0 0 := ⟨1, rfl, rfl, RX2, TX2, 6, tyX2, rfl, by decide, List.mem_of_getElem? (i := 426) (by decide +kernel), inX2, tyX2_ok, nmX2, rfl, rfl, rfl, by decide⟩
theorem fl_RX2_19 : zFL RX2 19 1 4 true 2 2 := ⟨4, rfl, rfl, RX2, TX2, 6, tyX2, rfl, by decide, List.mem_of_getElem? (i := 429) (by decide +kernel), inX2, tyX2_ok, nmX2, rfl, rfl, rfl, by decide⟩
theorem cv_RX2_33 : zCV RX2 33 1 yX2_row cX2_row 3 (some .int) 2 := ⟨RX2, TX2, 6, rfl, by decide, List.mem_of_getElem? (i := 868) (by decide +kernel), List.mem_of_getElem? (i := 870) (by decide +kernel), List.mem_of_getElem? (i := 20) (by decide +kernel), List.mem_of_getElem? (i := 148) (by decide +kernel), List.mem_of_getElem? (i := 871) (by decide +kernel), ⟨rfl, by decide, by decide, by decide⟩, by decide⟩
theorem cs_RX2_37 : zCS RX2 37 yX2_cell cX2_cell 4 (some .int) 4 := ⟨List.mem_of_getElem? (i := 861) (by decide +kernel), List.mem_of_getElem? (i := 862) (by decide +kernel), List.mem_of_getElem? (i := 148) (by decide +kernel), List.mem_of_getElem? (i := 863) (by decide +kernel), ⟨by decide, by decide, by decide⟩, by decide⟩
