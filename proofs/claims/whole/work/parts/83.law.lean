/-! the law: the script, the loop -/
def zS (g : GP) (x : CX) (sc : Int → Int) (L : Int) : Prop := ∃ (Ln : Nat) (xf : Nat → Int32), va_X (g.2.1 (-5)) Ln xf (xs x) (xs x).heap ∧ g.2.1 (-5) < (xs x).heap.size ∧ ¬ zA g (g.2.1 (-5)) ∧ (Ln : Int) = L ∧ Ln ≤ 4096 ∧ ∀ j : Nat, j < Ln → sc (j : Int) = (xf j).toInt
theorem z_slen {g : GP} {x : CX} {own : String} {cc : ByteArray} {nL d n ce sl pc : Nat} {h : Hp} {ls : List (Nat × TV)} {st : List TV} (X : zX g x own cc nL d) {sc : Int → Int} {L l0 : Int} (S : zS g x sc L) (h5 : l0 = -5) (hd : decode cc pc = .ok (.arraylength, 1)) (k : ZW g x nL n h ce sl (pc + 1) ls ((0, L) :: st)) : ZW g x nL n h ce sl pc ls ((2, l0) :: st) := by
  subst h5
  obtain ⟨Ln, xf, s1, s2, s3, rfl, s5, s6⟩ := S
  intro H locs lsA hP hR hS hl hol hos
  have e : z_st g ((2, -5) :: st) = .ref (g.2.1 (-5)) :: z_st g st := by simp [z_st, z_val2 g.2.1 (show (-5 : Int) ≠ -1 by decide)]
  rw [e]
  refine va_slen X.1 X.2.1 s1 s2 s3 hS hd ?_
  exact k H locs lsA hP hR hS hl hol (okI (show r32 (Ln : Int) by unfold r32; omega) (okT hos))
theorem z_sld {g : GP} {x : CX} {own : String} {cc : ByteArray} {nL d n ce sl pc : Nat} {h : Hp} {ls : List (Nat × TV)} {st : List TV} (X : zX g x own cc nL d) {sc : Int → Int} {L l0 i : Int} (S : zS g x sc L) (h5 : l0 = -5) (hd : decode cc pc = .ok (.iaload, 1)) (h0 : 0 ≤ i) (h1 : i < L) (k : ZW g x nL n h ce sl (pc + 1) ls ((0, sc i) :: st)) : ZW g x nL n h ce sl pc ls ((0, i) :: (2, l0) :: st) := by
  subst h5
  obtain ⟨Ln, xf, s1, s2, s3, rfl, s5, s6⟩ := S
  intro H locs lsA hP hR hS hl hol hos
  have e : z_st g ((0, i) :: (2, -5) :: st) = .int (i32 i) :: .ref (g.2.1 (-5)) :: z_st g st := by simp [z_st, z_val0, z_val2 g.2.1 (show (-5 : Int) ≠ -1 by decide)]
  rw [e]
  have hsc : sc i = (xf i.toNat).toInt := by
    have := s6 i.toNat (by omega)
    rw [z_ix h0] at this
    exact this
  refine va_sld X.1 X.2.1 s1 s2 s3 hS (vp_in_i (okI1 hos) h0 h1) hd ?_
  rw [clamp_i (okI1 hos)]
  have h2 := k H locs lsA hP hR hS hl hol (okI (by rw [hsc]; exact r32_of _) (okT (okT hos)))
  have e2 : z_st g ((0, sc i) :: st) = .int (xf i.toNat) :: z_st g st := by
    show z_val g.2.1 (0, sc i) :: z_st g st = _
    rw [z_val0, hsc, i32_of]
  rw [e2] at h2
  exact h2
set_option maxHeartbeats 4000000 in
set_option maxRecDepth 100000 in
theorem z_Lw_j1356 {g : GP} {x : CX} {d : Nat} (X : zX g x RL cL_law 4 (d + 1)) (hd : 7 ≤ d) (sc : Int → Int) (L : Int) (hS : zS g x sc L) (hz : 157 ≤ (xR x).cells ∧ 304027 ≤ (xR x).slots) (l0 l1 l2 l3 : Int) (h : Hp) (y : (Int × Hp) ⊕ (Hp)) (hf : Lw_j1356 (d + 1) sc L l0 l1 l2 l3 h = some y) (E : Hp → Prop) (hx0 : ∀ e : Hp, E (e) → ZW g x 4 157 e 157 304027 1362 [] []) (hk : z_sum (fun q : Int × Hp => ZW g x 4 157 q.2 157 304027 18 [(0, (2, l0)), (1, (2, l1)), (2, (2, l2)), (3, (0, q.1))] []) E y) : ZW g x 4 157 h 157 304027 1356 [(0, (2, l0)), (1, (2, l1)), (2, (2, l2)), (3, (0, l3))] [] := by
  unfold Lw_j1356 at hf
  refine z_iinc X dL_law_1356 3 rfl (by decide) (ls' := [(3, (0, w32 (l3 + 8))), (0, (2, l0)), (1, (2, l1)), (2, (2, l2))]) rfl ?_
  refine z_goto X dL_law_1359 rfl ?_
  cases hf
  exact z_weak [1, 2, 3, 0] rfl hk
set_option maxHeartbeats 4000000 in
set_option maxRecDepth 100000 in
theorem z_Lw_L18 {g : GP} {x : CX} {d : Nat} (X : zX g x RL cL_law 4 (d + 1)) (hd : 7 ≤ d) (sc : Int → Int) (L : Int) (hS : zS g x sc L) (hz : 157 ≤ (xR x).cells ∧ 304027 ≤ (xR x).slots) (l0 l1 l2 : Int)  (E : Hp → Prop) (hx0 : ∀ e : Hp, E (e) → ZW g x 4 157 e 157 304027 1362 [] []) (l3 : Int) (h : Hp) (y : (Int × Hp) ⊕ (Hp)) (hf : Lw_L18 (d + 1) sc L l0 l1 l2 l3 h = some y) (hk : z_sum (fun q : Int × Hp => ZW g x 4 157 q.2 157 304027 18 [(0, (2, l0)), (1, (2, l1)), (2, (2, l2)), (3, (0, q.1))] []) E y) : ZW g x 4 157 h 157 304027 18 [(0, (2, l0)), (1, (2, l1)), (2, (2, l2)), (3, (0, l3))] [] := by
  unfold Lw_L18 at hf
  refine z_iload_n X dL_law_18 3 rfl ?_
  refine z_aload_n X dL_law_19 0 rfl ?_
  obtain ⟨g1, hf⟩ := gif hf
  refine z_slen X hS g1 dL_law_20 ?_
  refine z_bipush X dL_law_21 kb_8 kc_8 ?_
  refine z_isub X dL_law_23 ?_
  refine z_icmp_gt X dL_law_24 rfl (fun hc24 => ?_) (fun hc24 => ?_)
  · have hf := ift hc24 hf
    cases hf
    exact z_weak [] rfl (hx0 _ hk)
  · have hf := iff' hc24 hf
    refine z_aload_n X dL_law_27 0 rfl ?_
    refine z_iload_n X dL_law_28 3 rfl ?_
    obtain ⟨g2, hf⟩ := gif hf
    refine z_sld X hS g1 dL_law_29 g2.1 g2.2 ?_
    refine z_bipush X dL_law_30 kb_63 kc_63 ?_
    refine z_iand X dL_law_32 ?_
    by_cases hc33_0 : i_and (sc l3) 63 = 0
    · have hf := ift hc33_0 hf
      refine z_tsIn X dL_law_33 (by omega) (by omega) (by rw [hc33_0]; rfl) rfl ?_
      refine z_aload_n X dL_law_180 1 rfl ?_
      refine z_aload_n X dL_law_181 0 rfl ?_
      refine z_iload_n X dL_law_182 3 rfl ?_
      refine z_iconst X dL_law_183 kc_1 ?_
      refine z_iadd X dL_law_184 ?_
      obtain ⟨g3, hf⟩ := gif hf
      refine z_sld X hS g1 dL_law_185 g3.1 g3.2 ?_
      refine z_aload_n X dL_law_186 0 rfl ?_
      refine z_iload_n X dL_law_187 3 rfl ?_
      refine z_iconst X dL_law_188 kc_2 ?_
      refine z_iadd X dL_law_189 ?_
      obtain ⟨g4, hf⟩ := gif hf
      refine z_sld X hS g1 dL_law_190 g4.1 g4.2 ?_
      refine z_aload_n X dL_law_191 0 rfl ?_
      refine z_iload_n X dL_law_192 3 rfl ?_
      refine z_iconst X dL_law_193 kc_3 ?_
      refine z_iadd X dL_law_194 ?_
      obtain ⟨g5, hf⟩ := gif hf
      refine z_sld X hS g1 dL_law_195 g5.1 g5.2 ?_
      refine z_aload_n X dL_law_196 0 rfl ?_
      refine z_iload_n X dL_law_197 3 rfl ?_
      refine z_iconst X dL_law_198 kc_4 ?_
      refine z_iadd X dL_law_199 ?_
      obtain ⟨g6, hf⟩ := gif hf
      refine z_sld X hS g1 dL_law_200 g6.1 g6.2 ?_
      refine z_aload_n X dL_law_201 0 rfl ?_
      refine z_iload_n X dL_law_202 3 rfl ?_
      refine z_iconst X dL_law_203 kc_5 ?_
      refine z_iadd X dL_law_204 ?_
      obtain ⟨g7, hf⟩ := gif hf
      refine z_sld X hS g1 dL_law_205 g7.1 g7.2 ?_
      obtain ⟨g8, hf⟩ := gif hf
      obtain ⟨r206, hr206, hf⟩ := obE hf
      refine y_V1 X cv_RL_13 dL_law_206 g8 (c_X_feed d (Nat.le_trans (by decide) hd) l1 (sc (w32 (l3 + 1))) (sc (w32 (l3 + 2))) (sc (w32 (l3 + 3))) (sc (w32 (l3 + 4))) (sc (w32 (l3 + 5))) h r206 hr206) (as := [(0, sc (w32 (l3 + 1))), (0, sc (w32 (l3 + 2))), (0, sc (w32 (l3 + 3))), (0, sc (w32 (l3 + 4))), (0, sc (w32 (l3 + 5)))]) rfl rfl (Nat.le_of_ble_eq_true rfl) hz ?_
      refine z_aload_n X dL_law_209 2 rfl ?_
      refine z_aload_n X dL_law_210 0 rfl ?_
      refine z_iload_n X dL_law_211 3 rfl ?_
      refine z_iconst X dL_law_212 kc_1 ?_
      refine z_iadd X dL_law_213 ?_
      refine z_sld X hS g1 dL_law_214 g3.1 g3.2 ?_
      refine z_aload_n X dL_law_215 0 rfl ?_
      refine z_iload_n X dL_law_216 3 rfl ?_
      refine z_iconst X dL_law_217 kc_2 ?_
      refine z_iadd X dL_law_218 ?_
      refine z_sld X hS g1 dL_law_219 g4.1 g4.2 ?_
      refine z_aload_n X dL_law_220 0 rfl ?_
      refine z_iload_n X dL_law_221 3 rfl ?_
      refine z_iconst X dL_law_222 kc_3 ?_
      refine z_iadd X dL_law_223 ?_
      refine z_sld X hS g1 dL_law_224 g5.1 g5.2 ?_
      refine z_aload_n X dL_law_225 0 rfl ?_
      refine z_iload_n X dL_law_226 3 rfl ?_
      refine z_iconst X dL_law_227 kc_4 ?_
      refine z_iadd X dL_law_228 ?_
      refine z_sld X hS g1 dL_law_229 g6.1 g6.2 ?_
      refine z_aload_n X dL_law_230 0 rfl ?_
      refine z_iload_n X dL_law_231 3 rfl ?_
      refine z_iconst X dL_law_232 kc_5 ?_
      refine z_iadd X dL_law_233 ?_
      refine z_sld X hS g1 dL_law_234 g7.1 g7.2 ?_
      obtain ⟨g9, hf⟩ := gif hf
      obtain ⟨r235, hr235, hf⟩ := obE hf
      refine y_V1 X cv_RL_17 dL_law_235 g9 (c_M_feed d (Nat.zero_le _) l2 (sc (w32 (l3 + 1))) (sc (w32 (l3 + 2))) (sc (w32 (l3 + 3))) (sc (w32 (l3 + 4))) (sc (w32 (l3 + 5))) r206.2 r235 hr235) (as := [(0, sc (w32 (l3 + 1))), (0, sc (w32 (l3 + 2))), (0, sc (w32 (l3 + 3))), (0, sc (w32 (l3 + 4))), (0, sc (w32 (l3 + 5)))]) rfl rfl (Nat.le_of_ble_eq_true rfl) hz ?_
      refine z_icmp_eq X dL_law_238 rfl (fun hc238 => ?_) (fun hc238 => ?_)
      · have hf := ift hc238 hf
        exact (z_Lw_j1356 X hd sc L hS hz l0 l1 l2 l3 r235.2 _ hf E hx0 hk)
      · have hf := iff' hc238 hf
        cases hf
    · have hf := iff' hc33_0 hf
      by_cases hc33_1 : i_and (sc l3) 63 = 1
      · have hf := ift hc33_1 hf
        refine z_tsIn X dL_law_33 (by omega) (by omega) (by rw [hc33_1]; rfl) rfl ?_
        refine z_aload_n X dL_law_243 1 rfl ?_
        refine z_aload_n X dL_law_244 0 rfl ?_
        refine z_iload_n X dL_law_245 3 rfl ?_
        refine z_iconst X dL_law_246 kc_1 ?_
        refine z_iadd X dL_law_247 ?_
        obtain ⟨g10, hf⟩ := gif hf
        refine z_sld X hS g1 dL_law_248 g10.1 g10.2 ?_
        obtain ⟨g11, hf⟩ := gif hf
        obtain ⟨r249, hr249, hf⟩ := obE hf
        refine y_V1 X cv_RL_18 dL_law_249 g11 (c_X_end d (Nat.zero_le _) l1 (sc (w32 (l3 + 1))) h r249 hr249) (as := [(0, sc (w32 (l3 + 1)))]) rfl rfl (Nat.le_of_ble_eq_true rfl) hz ?_
        refine z_aload_n X dL_law_252 2 rfl ?_
        refine z_aload_n X dL_law_253 0 rfl ?_
        refine z_iload_n X dL_law_254 3 rfl ?_
        refine z_iconst X dL_law_255 kc_1 ?_
        refine z_iadd X dL_law_256 ?_
        refine z_sld X hS g1 dL_law_257 g10.1 g10.2 ?_
        obtain ⟨g12, hf⟩ := gif hf
        obtain ⟨r258, hr258, hf⟩ := obE hf
        refine y_V1 X cv_RL_22 dL_law_258 g12 (c_M_end d (Nat.le_trans (by decide) hd) l2 (sc (w32 (l3 + 1))) r249.2 r258 hr258) (as := [(0, sc (w32 (l3 + 1)))]) rfl rfl (Nat.le_of_ble_eq_true rfl) hz ?_
        refine z_icmp_eq X dL_law_261 rfl (fun hc261 => ?_) (fun hc261 => ?_)
        · have hf := ift hc261 hf
          exact (z_Lw_j1356 X hd sc L hS hz l0 l1 l2 l3 r258.2 _ hf E hx0 hk)
        · have hf := iff' hc261 hf
          cases hf
      · have hf := iff' hc33_1 hf
        by_cases hc33_2 : i_and (sc l3) 63 = 2
        · have hf := ift hc33_2 hf
          refine z_tsIn X dL_law_33 (by omega) (by omega) (by rw [hc33_2]; rfl) rfl ?_
          refine z_aload_n X dL_law_266 1 rfl ?_
          obtain ⟨g13, hf⟩ := gif hf
          obtain ⟨r267, hr267, hf⟩ := obE hf
          refine y_V1 X cv_RL_23 dL_law_267 g13 (c_X_grammar d (Nat.le_trans (by decide) hd) l1 h r267 hr267) (as := []) rfl rfl (Nat.le_of_ble_eq_true rfl) hz ?_
          refine z_aload_n X dL_law_270 2 rfl ?_
          obtain ⟨g14, hf⟩ := gif hf
          obtain ⟨r271, hr271, hf⟩ := obE hf
          refine y_V1 X cv_RL_27 dL_law_271 g14 (c_M_grammar d (Nat.le_trans (by decide) hd) l2 r267.2 r271 hr271) (as := []) rfl rfl (Nat.le_of_ble_eq_true rfl) hz ?_
          refine z_icmp_eq X dL_law_274 rfl (fun hc274 => ?_) (fun hc274 => ?_)
          · have hf := ift hc274 hf
            exact (z_Lw_j1356 X hd sc L hS hz l0 l1 l2 l3 r271.2 _ hf E hx0 hk)
          · have hf := iff' hc274 hf
            cases hf
        · have hf := iff' hc33_2 hf
          by_cases hc33_3 : i_and (sc l3) 63 = 3
          · have hf := ift hc33_3 hf
            refine z_tsIn X dL_law_33 (by omega) (by omega) (by rw [hc33_3]; rfl) rfl ?_
            refine z_aload_n X dL_law_279 1 rfl ?_
            refine z_aload_n X dL_law_280 0 rfl ?_
            refine z_iload_n X dL_law_281 3 rfl ?_
            refine z_iconst X dL_law_282 kc_1 ?_
            refine z_iadd X dL_law_283 ?_
            obtain ⟨g15, hf⟩ := gif hf
            refine z_sld X hS g1 dL_law_284 g15.1 g15.2 ?_
            obtain ⟨g16, hf⟩ := gif hf
            obtain ⟨r285, hr285, hf⟩ := obE hf
            refine y_V1 X cv_RL_28 dL_law_285 g16 (c_X_fault d (Nat.zero_le _) l1 (sc (w32 (l3 + 1))) h r285 hr285) (as := [(0, sc (w32 (l3 + 1)))]) rfl rfl (Nat.le_of_ble_eq_true rfl) hz ?_
            refine z_aload_n X dL_law_288 2 rfl ?_
            refine z_aload_n X dL_law_289 0 rfl ?_
            refine z_iload_n X dL_law_290 3 rfl ?_
            refine z_iconst X dL_law_291 kc_1 ?_
            refine z_iadd X dL_law_292 ?_
            refine z_sld X hS g1 dL_law_293 g15.1 g15.2 ?_
            obtain ⟨g17, hf⟩ := gif hf
            obtain ⟨r294, hr294, hf⟩ := obE hf
            refine y_V1 X cv_RL_31 dL_law_294 g17 (c_M_fault d (Nat.zero_le _) l2 (sc (w32 (l3 + 1))) h r294 hr294) (as := [(0, sc (w32 (l3 + 1)))]) rfl rfl (Nat.le_of_ble_eq_true rfl) hz ?_
            refine z_icmp_eq X dL_law_297 rfl (fun hc297 => ?_) (fun hc297 => ?_)
            · have hf := ift hc297 hf
              exact (z_Lw_j1356 X hd sc L hS hz l0 l1 l2 l3 h _ hf E hx0 hk)
            · have hf := iff' hc297 hf
              cases hf
          · have hf := iff' hc33_3 hf
            by_cases hc33_4 : i_and (sc l3) 63 = 4
            · have hf := ift hc33_4 hf
              refine z_tsIn X dL_law_33 (by omega) (by omega) (by rw [hc33_4]; rfl) rfl ?_
              refine z_aload_n X dL_law_302 1 rfl ?_
              obtain ⟨g18, hf⟩ := gif hf
              obtain ⟨r303, hr303, hf⟩ := obE hf
              refine y_V1 X cv_RL_32 dL_law_303 g18 (c_X_say d (Nat.le_trans (by decide) hd) l1 h r303 hr303) (as := []) rfl rfl (Nat.le_of_ble_eq_true rfl) hz ?_
              refine z_aload_n X dL_law_306 2 rfl ?_
              obtain ⟨g19, hf⟩ := gif hf
              obtain ⟨r307, hr307, hf⟩ := obE hf
              refine y_V1 X cv_RL_35 dL_law_307 g19 (c_M_say d (Nat.le_trans (by decide) hd) l2 r303.2 r307 hr307) (as := []) rfl rfl (Nat.le_of_ble_eq_true rfl) hz ?_
              refine z_icmp_eq X dL_law_310 rfl (fun hc310 => ?_) (fun hc310 => ?_)
              · have hf := ift hc310 hf
                exact (z_Lw_j1356 X hd sc L hS hz l0 l1 l2 l3 r307.2 _ hf E hx0 hk)
              · have hf := iff' hc310 hf
                cases hf
            · have hf := iff' hc33_4 hf
              by_cases hc33_5 : i_and (sc l3) 63 = 5
              · have hf := ift hc33_5 hf
                refine z_tsIn X dL_law_33 (by omega) (by omega) (by rw [hc33_5]; rfl) rfl ?_
                refine z_aload_n X dL_law_315 1 rfl ?_
                refine z_aload_n X dL_law_316 0 rfl ?_
                refine z_iload_n X dL_law_317 3 rfl ?_
                refine z_iconst X dL_law_318 kc_1 ?_
                refine z_iadd X dL_law_319 ?_
                obtain ⟨g20, hf⟩ := gif hf
                refine z_sld X hS g1 dL_law_320 g20.1 g20.2 ?_
                obtain ⟨g21, hf⟩ := gif hf
                obtain ⟨r321, hr321, hf⟩ := obE hf
                refine y_V1 X cv_RL_36 dL_law_321 g21 (c_X_count d (Nat.le_trans (by decide) hd) l1 (sc (w32 (l3 + 1))) h r321 hr321) (as := [(0, sc (w32 (l3 + 1)))]) rfl rfl (Nat.le_of_ble_eq_true rfl) hz ?_
                refine z_aload_n X dL_law_324 2 rfl ?_
                refine z_aload_n X dL_law_325 0 rfl ?_
                refine z_iload_n X dL_law_326 3 rfl ?_
                refine z_iconst X dL_law_327 kc_1 ?_
                refine z_iadd X dL_law_328 ?_
                refine z_sld X hS g1 dL_law_329 g20.1 g20.2 ?_
                obtain ⟨g22, hf⟩ := gif hf
                obtain ⟨r330, hr330, hf⟩ := obE hf
                refine y_V1 X cv_RL_39 dL_law_330 g22 (c_M_count d (Nat.le_trans (by decide) hd) l2 (sc (w32 (l3 + 1))) h r330 hr330) (as := [(0, sc (w32 (l3 + 1)))]) rfl rfl (Nat.le_of_ble_eq_true rfl) hz ?_
                refine z_icmp_eq X dL_law_333 rfl (fun hc333 => ?_) (fun hc333 => ?_)
                · have hf := ift hc333 hf
                  exact (z_Lw_j1356 X hd sc L hS hz l0 l1 l2 l3 h _ hf E hx0 hk)
                · have hf := iff' hc333 hf
                  cases hf
              · have hf := iff' hc33_5 hf
                by_cases hc33_6 : i_and (sc l3) 63 = 6
                · have hf := ift hc33_6 hf
                  refine z_tsIn X dL_law_33 (by omega) (by omega) (by rw [hc33_6]; rfl) rfl ?_
                  refine z_aload_n X dL_law_338 1 rfl ?_
                  refine z_aload_n X dL_law_339 0 rfl ?_
                  refine z_iload_n X dL_law_340 3 rfl ?_
                  refine z_iconst X dL_law_341 kc_1 ?_
                  refine z_iadd X dL_law_342 ?_
                  obtain ⟨g23, hf⟩ := gif hf
                  refine z_sld X hS g1 dL_law_343 g23.1 g23.2 ?_
                  refine z_aload_n X dL_law_344 0 rfl ?_
                  refine z_iload_n X dL_law_345 3 rfl ?_
                  refine z_iconst X dL_law_346 kc_2 ?_
                  refine z_iadd X dL_law_347 ?_
                  obtain ⟨g24, hf⟩ := gif hf
                  refine z_sld X hS g1 dL_law_348 g24.1 g24.2 ?_
                  obtain ⟨g25, hf⟩ := gif hf
                  obtain ⟨r349, hr349, hf⟩ := obE hf
                  refine y_V1 X cv_RL_40 dL_law_349 g25 (c_X_tree d (Nat.le_trans (by decide) hd) l1 (sc (w32 (l3 + 1))) (sc (w32 (l3 + 2))) h r349 hr349) (as := [(0, sc (w32 (l3 + 1))), (0, sc (w32 (l3 + 2)))]) rfl rfl (Nat.le_of_ble_eq_true rfl) hz ?_
                  refine z_aload_n X dL_law_352 2 rfl ?_
                  refine z_aload_n X dL_law_353 0 rfl ?_
                  refine z_iload_n X dL_law_354 3 rfl ?_
                  refine z_iconst X dL_law_355 kc_1 ?_
                  refine z_iadd X dL_law_356 ?_
                  refine z_sld X hS g1 dL_law_357 g23.1 g23.2 ?_
                  refine z_aload_n X dL_law_358 0 rfl ?_
                  refine z_iload_n X dL_law_359 3 rfl ?_
                  refine z_iconst X dL_law_360 kc_2 ?_
                  refine z_iadd X dL_law_361 ?_
                  refine z_sld X hS g1 dL_law_362 g24.1 g24.2 ?_
                  obtain ⟨g26, hf⟩ := gif hf
                  obtain ⟨r363, hr363, hf⟩ := obE hf
                  refine y_V1 X cv_RL_44 dL_law_363 g26 (c_M_tree d (Nat.le_trans (by decide) hd) l2 (sc (w32 (l3 + 1))) (sc (w32 (l3 + 2))) h r363 hr363) (as := [(0, sc (w32 (l3 + 1))), (0, sc (w32 (l3 + 2)))]) rfl rfl (Nat.le_of_ble_eq_true rfl) hz ?_
                  refine z_icmp_eq X dL_law_366 rfl (fun hc366 => ?_) (fun hc366 => ?_)
                  · have hf := ift hc366 hf
                    exact (z_Lw_j1356 X hd sc L hS hz l0 l1 l2 l3 h _ hf E hx0 hk)
                  · have hf := iff' hc366 hf
                    cases hf
                · have hf := iff' hc33_6 hf
                  by_cases hc33_7 : i_and (sc l3) 63 = 7
                  · have hf := ift hc33_7 hf
                    refine z_tsIn X dL_law_33 (by omega) (by omega) (by rw [hc33_7]; rfl) rfl ?_
                    refine z_aload_n X dL_law_371 1 rfl ?_
                    refine z_aload_n X dL_law_372 0 rfl ?_
                    refine z_iload_n X dL_law_373 3 rfl ?_
                    refine z_iconst X dL_law_374 kc_1 ?_
                    refine z_iadd X dL_law_375 ?_
                    obtain ⟨g27, hf⟩ := gif hf
                    refine z_sld X hS g1 dL_law_376 g27.1 g27.2 ?_
                    refine z_aload_n X dL_law_377 0 rfl ?_
                    refine z_iload_n X dL_law_378 3 rfl ?_
                    refine z_iconst X dL_law_379 kc_2 ?_
                    refine z_iadd X dL_law_380 ?_
                    obtain ⟨g28, hf⟩ := gif hf
                    refine z_sld X hS g1 dL_law_381 g28.1 g28.2 ?_
                    refine z_aload_n X dL_law_382 0 rfl ?_
                    refine z_iload_n X dL_law_383 3 rfl ?_
                    refine z_iconst X dL_law_384 kc_3 ?_
                    refine z_iadd X dL_law_385 ?_
                    obtain ⟨g29, hf⟩ := gif hf
                    refine z_sld X hS g1 dL_law_386 g29.1 g29.2 ?_
                    obtain ⟨g30, hf⟩ := gif hf
                    obtain ⟨r387, hr387, hf⟩ := obE hf
                    refine y_V1 X cv_RL_45 dL_law_387 g30 (c_X_node d (Nat.le_trans (by decide) hd) l1 (sc (w32 (l3 + 1))) (sc (w32 (l3 + 2))) (sc (w32 (l3 + 3))) h r387 hr387) (as := [(0, sc (w32 (l3 + 1))), (0, sc (w32 (l3 + 2))), (0, sc (w32 (l3 + 3)))]) rfl rfl (Nat.le_of_ble_eq_true rfl) hz ?_
                    refine z_aload_n X dL_law_390 2 rfl ?_
                    refine z_aload_n X dL_law_391 0 rfl ?_
                    refine z_iload_n X dL_law_392 3 rfl ?_
                    refine z_iconst X dL_law_393 kc_1 ?_
                    refine z_iadd X dL_law_394 ?_
                    refine z_sld X hS g1 dL_law_395 g27.1 g27.2 ?_
                    refine z_aload_n X dL_law_396 0 rfl ?_
                    refine z_iload_n X dL_law_397 3 rfl ?_
                    refine z_iconst X dL_law_398 kc_2 ?_
                    refine z_iadd X dL_law_399 ?_
                    refine z_sld X hS g1 dL_law_400 g28.1 g28.2 ?_
                    refine z_aload_n X dL_law_401 0 rfl ?_
                    refine z_iload_n X dL_law_402 3 rfl ?_
                    refine z_iconst X dL_law_403 kc_3 ?_
                    refine z_iadd X dL_law_404 ?_
                    refine z_sld X hS g1 dL_law_405 g29.1 g29.2 ?_
                    obtain ⟨g31, hf⟩ := gif hf
                    obtain ⟨r406, hr406, hf⟩ := obE hf
                    refine y_V1 X cv_RL_49 dL_law_406 g31 (c_M_node d (Nat.le_trans (by decide) hd) l2 (sc (w32 (l3 + 1))) (sc (w32 (l3 + 2))) (sc (w32 (l3 + 3))) h r406 hr406) (as := [(0, sc (w32 (l3 + 1))), (0, sc (w32 (l3 + 2))), (0, sc (w32 (l3 + 3)))]) rfl rfl (Nat.le_of_ble_eq_true rfl) hz ?_
                    refine z_icmp_eq X dL_law_409 rfl (fun hc409 => ?_) (fun hc409 => ?_)
                    · have hf := ift hc409 hf
                      exact (z_Lw_j1356 X hd sc L hS hz l0 l1 l2 l3 h _ hf E hx0 hk)
                    · have hf := iff' hc409 hf
                      cases hf
                  · have hf := iff' hc33_7 hf
                    by_cases hc33_8 : i_and (sc l3) 63 = 8
                    · have hf := ift hc33_8 hf
                      refine z_tsIn X dL_law_33 (by omega) (by omega) (by rw [hc33_8]; rfl) rfl ?_
                      refine z_aload_n X dL_law_414 1 rfl ?_
                      refine z_aload_n X dL_law_415 0 rfl ?_
                      refine z_iload_n X dL_law_416 3 rfl ?_
                      refine z_iconst X dL_law_417 kc_1 ?_
                      refine z_iadd X dL_law_418 ?_
                      obtain ⟨g32, hf⟩ := gif hf
                      refine z_sld X hS g1 dL_law_419 g32.1 g32.2 ?_
                      refine z_aload_n X dL_law_420 0 rfl ?_
                      refine z_iload_n X dL_law_421 3 rfl ?_
                      refine z_iconst X dL_law_422 kc_2 ?_
                      refine z_iadd X dL_law_423 ?_
                      obtain ⟨g33, hf⟩ := gif hf
                      refine z_sld X hS g1 dL_law_424 g33.1 g33.2 ?_
                      obtain ⟨g34, hf⟩ := gif hf
                      obtain ⟨r425, hr425, hf⟩ := obE hf
                      refine y_V1 X cv_RL_50 dL_law_425 g34 (c_X_out d (Nat.le_trans (by decide) hd) l1 (sc (w32 (l3 + 1))) (sc (w32 (l3 + 2))) h r425 hr425) (as := [(0, sc (w32 (l3 + 1))), (0, sc (w32 (l3 + 2)))]) rfl rfl (Nat.le_of_ble_eq_true rfl) hz ?_
                      refine z_aload_n X dL_law_428 2 rfl ?_
                      refine z_aload_n X dL_law_429 0 rfl ?_
                      refine z_iload_n X dL_law_430 3 rfl ?_
                      refine z_iconst X dL_law_431 kc_1 ?_
                      refine z_iadd X dL_law_432 ?_
                      refine z_sld X hS g1 dL_law_433 g32.1 g32.2 ?_
                      refine z_aload_n X dL_law_434 0 rfl ?_
                      refine z_iload_n X dL_law_435 3 rfl ?_
                      refine z_iconst X dL_law_436 kc_2 ?_
                      refine z_iadd X dL_law_437 ?_
                      refine z_sld X hS g1 dL_law_438 g33.1 g33.2 ?_
                      obtain ⟨g35, hf⟩ := gif hf
                      obtain ⟨r439, hr439, hf⟩ := obE hf
                      refine y_V1 X cv_RL_53 dL_law_439 g35 (c_M_out d (Nat.le_trans (by decide) hd) l2 (sc (w32 (l3 + 1))) (sc (w32 (l3 + 2))) r425.2 r439 hr439) (as := [(0, sc (w32 (l3 + 1))), (0, sc (w32 (l3 + 2)))]) rfl rfl (Nat.le_of_ble_eq_true rfl) hz ?_
                      refine z_icmp_eq X dL_law_442 rfl (fun hc442 => ?_) (fun hc442 => ?_)
                      · have hf := ift hc442 hf
                        exact (z_Lw_j1356 X hd sc L hS hz l0 l1 l2 l3 r439.2 _ hf E hx0 hk)
                      · have hf := iff' hc442 hf
                        cases hf
                    · have hf := iff' hc33_8 hf
                      by_cases hc33_9 : i_and (sc l3) 63 = 9
                      · have hf := ift hc33_9 hf
                        refine z_tsIn X dL_law_33 (by omega) (by omega) (by rw [hc33_9]; rfl) rfl ?_
                        refine z_aload_n X dL_law_447 1 rfl ?_
                        refine z_aload_n X dL_law_448 0 rfl ?_
                        refine z_iload_n X dL_law_449 3 rfl ?_
                        refine z_iconst X dL_law_450 kc_1 ?_
                        refine z_iadd X dL_law_451 ?_
                        obtain ⟨g36, hf⟩ := gif hf
                        refine z_sld X hS g1 dL_law_452 g36.1 g36.2 ?_
                        refine z_aload_n X dL_law_453 0 rfl ?_
                        refine z_iload_n X dL_law_454 3 rfl ?_
                        refine z_iconst X dL_law_455 kc_2 ?_
                        refine z_iadd X dL_law_456 ?_
                        obtain ⟨g37, hf⟩ := gif hf
                        refine z_sld X hS g1 dL_law_457 g37.1 g37.2 ?_
                        refine z_aload_n X dL_law_458 0 rfl ?_
                        refine z_iload_n X dL_law_459 3 rfl ?_
                        refine z_iconst X dL_law_460 kc_3 ?_
                        refine z_iadd X dL_law_461 ?_
                        obtain ⟨g38, hf⟩ := gif hf
                        refine z_sld X hS g1 dL_law_462 g38.1 g38.2 ?_
                        obtain ⟨g39, hf⟩ := gif hf
                        obtain ⟨r463, hr463, hf⟩ := obE hf
                        refine y_V1 X cv_RL_54 dL_law_463 g39 (c_X_marks d (Nat.le_trans (by decide) hd) l1 (sc (w32 (l3 + 1))) (sc (w32 (l3 + 2))) (sc (w32 (l3 + 3))) h r463 hr463) (as := [(0, sc (w32 (l3 + 1))), (0, sc (w32 (l3 + 2))), (0, sc (w32 (l3 + 3)))]) rfl rfl (Nat.le_of_ble_eq_true rfl) hz ?_
                        refine z_aload_n X dL_law_466 2 rfl ?_
                        refine z_aload_n X dL_law_467 0 rfl ?_
                        refine z_iload_n X dL_law_468 3 rfl ?_
                        refine z_iconst X dL_law_469 kc_1 ?_
                        refine z_iadd X dL_law_470 ?_
                        refine z_sld X hS g1 dL_law_471 g36.1 g36.2 ?_
                        refine z_aload_n X dL_law_472 0 rfl ?_
                        refine z_iload_n X dL_law_473 3 rfl ?_
                        refine z_iconst X dL_law_474 kc_2 ?_
                        refine z_iadd X dL_law_475 ?_
                        refine z_sld X hS g1 dL_law_476 g37.1 g37.2 ?_
                        refine z_aload_n X dL_law_477 0 rfl ?_
                        refine z_iload_n X dL_law_478 3 rfl ?_
                        refine z_iconst X dL_law_479 kc_3 ?_
                        refine z_iadd X dL_law_480 ?_
                        refine z_sld X hS g1 dL_law_481 g38.1 g38.2 ?_
                        obtain ⟨g40, hf⟩ := gif hf
                        obtain ⟨r482, hr482, hf⟩ := obE hf
                        refine y_V1 X cv_RL_57 dL_law_482 g40 (c_M_marks d (Nat.le_trans (by decide) hd) l2 (sc (w32 (l3 + 1))) (sc (w32 (l3 + 2))) (sc (w32 (l3 + 3))) r463.2 r482 hr482) (as := [(0, sc (w32 (l3 + 1))), (0, sc (w32 (l3 + 2))), (0, sc (w32 (l3 + 3)))]) rfl rfl (Nat.le_of_ble_eq_true rfl) hz ?_
                        refine z_icmp_eq X dL_law_485 rfl (fun hc485 => ?_) (fun hc485 => ?_)
                        · have hf := ift hc485 hf
                          exact (z_Lw_j1356 X hd sc L hS hz l0 l1 l2 l3 r482.2 _ hf E hx0 hk)
                        · have hf := iff' hc485 hf
                          cases hf
                      · have hf := iff' hc33_9 hf
                        by_cases hc33_10 : i_and (sc l3) 63 = 10
                        · have hf := ift hc33_10 hf
                          refine z_tsIn X dL_law_33 (by omega) (by omega) (by rw [hc33_10]; rfl) rfl ?_
                          refine z_aload_n X dL_law_490 1 rfl ?_
                          refine z_aload_n X dL_law_491 0 rfl ?_
                          refine z_iload_n X dL_law_492 3 rfl ?_
                          refine z_iconst X dL_law_493 kc_1 ?_
                          refine z_iadd X dL_law_494 ?_
                          obtain ⟨g41, hf⟩ := gif hf
                          refine z_sld X hS g1 dL_law_495 g41.1 g41.2 ?_
                          refine z_aload_n X dL_law_496 0 rfl ?_
                          refine z_iload_n X dL_law_497 3 rfl ?_
                          refine z_iconst X dL_law_498 kc_2 ?_
                          refine z_iadd X dL_law_499 ?_
                          obtain ⟨g42, hf⟩ := gif hf
                          refine z_sld X hS g1 dL_law_500 g42.1 g42.2 ?_
                          refine z_aload_n X dL_law_501 0 rfl ?_
                          refine z_iload_n X dL_law_502 3 rfl ?_
                          refine z_iconst X dL_law_503 kc_3 ?_
                          refine z_iadd X dL_law_504 ?_
                          obtain ⟨g43, hf⟩ := gif hf
                          refine z_sld X hS g1 dL_law_505 g43.1 g43.2 ?_
                          refine z_aload_n X dL_law_506 0 rfl ?_
                          refine z_iload_n X dL_law_507 3 rfl ?_
                          refine z_iconst X dL_law_508 kc_4 ?_
                          refine z_iadd X dL_law_509 ?_
                          obtain ⟨g44, hf⟩ := gif hf
                          refine z_sld X hS g1 dL_law_510 g44.1 g44.2 ?_
                          refine z_aload_n X dL_law_511 0 rfl ?_
                          refine z_iload_n X dL_law_512 3 rfl ?_
                          refine z_iconst X dL_law_513 kc_5 ?_
                          refine z_iadd X dL_law_514 ?_
                          obtain ⟨g45, hf⟩ := gif hf
                          refine z_sld X hS g1 dL_law_515 g45.1 g45.2 ?_
                          refine z_aload_n X dL_law_516 0 rfl ?_
                          refine z_iload_n X dL_law_517 3 rfl ?_
                          refine z_bipush X dL_law_518 kb_6 kc_6 ?_
                          refine z_iadd X dL_law_520 ?_
                          obtain ⟨g46, hf⟩ := gif hf
                          refine z_sld X hS g1 dL_law_521 g46.1 g46.2 ?_
                          refine z_aload_n X dL_law_522 0 rfl ?_
                          refine z_iload_n X dL_law_523 3 rfl ?_
                          refine z_bipush X dL_law_524 kb_7 kc_7 ?_
                          refine z_iadd X dL_law_526 ?_
                          obtain ⟨g47, hf⟩ := gif hf
                          refine z_sld X hS g1 dL_law_527 g47.1 g47.2 ?_
                          obtain ⟨g48, hf⟩ := gif hf
                          obtain ⟨r528, hr528, hf⟩ := obE hf
                          refine y_V1 X cv_RL_58 dL_law_528 g48 (c_X_over d (Nat.le_trans (by decide) hd) l1 (sc (w32 (l3 + 1))) (sc (w32 (l3 + 2))) (sc (w32 (l3 + 3))) (sc (w32 (l3 + 4))) (sc (w32 (l3 + 5))) (sc (w32 (l3 + 6))) (sc (w32 (l3 + 7))) h r528 hr528) (as := [(0, sc (w32 (l3 + 1))), (0, sc (w32 (l3 + 2))), (0, sc (w32 (l3 + 3))), (0, sc (w32 (l3 + 4))), (0, sc (w32 (l3 + 5))), (0, sc (w32 (l3 + 6))), (0, sc (w32 (l3 + 7)))]) rfl rfl (Nat.le_of_ble_eq_true rfl) hz ?_
                          refine z_aload_n X dL_law_531 2 rfl ?_
                          refine z_aload_n X dL_law_532 0 rfl ?_
                          refine z_iload_n X dL_law_533 3 rfl ?_
                          refine z_iconst X dL_law_534 kc_1 ?_
                          refine z_iadd X dL_law_535 ?_
                          refine z_sld X hS g1 dL_law_536 g41.1 g41.2 ?_
                          refine z_aload_n X dL_law_537 0 rfl ?_
                          refine z_iload_n X dL_law_538 3 rfl ?_
                          refine z_iconst X dL_law_539 kc_2 ?_
                          refine z_iadd X dL_law_540 ?_
                          refine z_sld X hS g1 dL_law_541 g42.1 g42.2 ?_
                          refine z_aload_n X dL_law_542 0 rfl ?_
                          refine z_iload_n X dL_law_543 3 rfl ?_
                          refine z_iconst X dL_law_544 kc_3 ?_
                          refine z_iadd X dL_law_545 ?_
                          refine z_sld X hS g1 dL_law_546 g43.1 g43.2 ?_
                          refine z_aload_n X dL_law_547 0 rfl ?_
                          refine z_iload_n X dL_law_548 3 rfl ?_
                          refine z_iconst X dL_law_549 kc_4 ?_
                          refine z_iadd X dL_law_550 ?_
                          refine z_sld X hS g1 dL_law_551 g44.1 g44.2 ?_
                          refine z_aload_n X dL_law_552 0 rfl ?_
                          refine z_iload_n X dL_law_553 3 rfl ?_
                          refine z_iconst X dL_law_554 kc_5 ?_
                          refine z_iadd X dL_law_555 ?_
                          refine z_sld X hS g1 dL_law_556 g45.1 g45.2 ?_
                          refine z_aload_n X dL_law_557 0 rfl ?_
                          refine z_iload_n X dL_law_558 3 rfl ?_
                          refine z_bipush X dL_law_559 kb_6 kc_6 ?_
                          refine z_iadd X dL_law_561 ?_
                          refine z_sld X hS g1 dL_law_562 g46.1 g46.2 ?_
                          refine z_aload_n X dL_law_563 0 rfl ?_
                          refine z_iload_n X dL_law_564 3 rfl ?_
                          refine z_bipush X dL_law_565 kb_7 kc_7 ?_
                          refine z_iadd X dL_law_567 ?_
                          refine z_sld X hS g1 dL_law_568 g47.1 g47.2 ?_
                          obtain ⟨g49, hf⟩ := gif hf
                          obtain ⟨r569, hr569, hf⟩ := obE hf
                          refine y_V1 X cv_RL_62 dL_law_569 g49 (c_M_over d (Nat.le_trans (by decide) hd) l2 (sc (w32 (l3 + 1))) (sc (w32 (l3 + 2))) (sc (w32 (l3 + 3))) (sc (w32 (l3 + 4))) (sc (w32 (l3 + 5))) (sc (w32 (l3 + 6))) (sc (w32 (l3 + 7))) r528.2 r569 hr569) (as := [(0, sc (w32 (l3 + 1))), (0, sc (w32 (l3 + 2))), (0, sc (w32 (l3 + 3))), (0, sc (w32 (l3 + 4))), (0, sc (w32 (l3 + 5))), (0, sc (w32 (l3 + 6))), (0, sc (w32 (l3 + 7)))]) rfl rfl (Nat.le_of_ble_eq_true rfl) hz ?_
                          refine z_l_eq X dL_law_572 dL_law_573 rfl (fun hc572 => ?_) (fun hc572 => ?_)
                          · have hf := ift hc572 hf
                            exact (z_Lw_j1356 X hd sc L hS hz l0 l1 l2 l3 r569.2 _ hf E hx0 hk)
                          · have hf := iff' hc572 hf
                            cases hf
                        · have hf := iff' hc33_10 hf
                          by_cases hc33_11 : i_and (sc l3) 63 = 11
                          · have hf := ift hc33_11 hf
                            refine z_tsIn X dL_law_33 (by omega) (by omega) (by rw [hc33_11]; rfl) rfl ?_
                            refine z_aload_n X dL_law_578 1 rfl ?_
                            refine z_aload_n X dL_law_579 0 rfl ?_
                            refine z_iload_n X dL_law_580 3 rfl ?_
                            refine z_iconst X dL_law_581 kc_1 ?_
                            refine z_iadd X dL_law_582 ?_
                            obtain ⟨g50, hf⟩ := gif hf
                            refine z_sld X hS g1 dL_law_583 g50.1 g50.2 ?_
                            obtain ⟨g51, hf⟩ := gif hf
                            obtain ⟨r584, hr584, hf⟩ := obE hf
                            refine y_V1 X cv_RL_63 dL_law_584 g51 (c_X_items d (Nat.le_trans (by decide) hd) l1 (sc (w32 (l3 + 1))) h r584 hr584) (as := [(0, sc (w32 (l3 + 1)))]) rfl rfl (Nat.le_of_ble_eq_true rfl) hz ?_
                            refine z_aload_n X dL_law_587 2 rfl ?_
                            refine z_aload_n X dL_law_588 0 rfl ?_
                            refine z_iload_n X dL_law_589 3 rfl ?_
                            refine z_iconst X dL_law_590 kc_1 ?_
                            refine z_iadd X dL_law_591 ?_
                            refine z_sld X hS g1 dL_law_592 g50.1 g50.2 ?_
                            obtain ⟨g52, hf⟩ := gif hf
                            obtain ⟨r593, hr593, hf⟩ := obE hf
                            refine y_V1 X cv_RL_66 dL_law_593 g52 (c_M_items d (Nat.le_trans (by decide) hd) l2 (sc (w32 (l3 + 1))) r584.2 r593 hr593) (as := [(0, sc (w32 (l3 + 1)))]) rfl rfl (Nat.le_of_ble_eq_true rfl) hz ?_
                            refine z_icmp_eq X dL_law_596 rfl (fun hc596 => ?_) (fun hc596 => ?_)
                            · have hf := ift hc596 hf
                              exact (z_Lw_j1356 X hd sc L hS hz l0 l1 l2 l3 r593.2 _ hf E hx0 hk)
                            · have hf := iff' hc596 hf
                              cases hf
                          · have hf := iff' hc33_11 hf
                            by_cases hc33_12 : i_and (sc l3) 63 = 12
                            · have hf := ift hc33_12 hf
                              refine z_tsIn X dL_law_33 (by omega) (by omega) (by rw [hc33_12]; rfl) rfl ?_
                              refine z_aload_n X dL_law_601 1 rfl ?_
                              refine z_aload_n X dL_law_602 0 rfl ?_
                              refine z_iload_n X dL_law_603 3 rfl ?_
                              refine z_iconst X dL_law_604 kc_1 ?_
                              refine z_iadd X dL_law_605 ?_
                              obtain ⟨g53, hf⟩ := gif hf
                              refine z_sld X hS g1 dL_law_606 g53.1 g53.2 ?_
                              refine z_aload_n X dL_law_607 0 rfl ?_
                              refine z_iload_n X dL_law_608 3 rfl ?_
                              refine z_iconst X dL_law_609 kc_2 ?_
                              refine z_iadd X dL_law_610 ?_
                              obtain ⟨g54, hf⟩ := gif hf
                              refine z_sld X hS g1 dL_law_611 g54.1 g54.2 ?_
                              obtain ⟨g55, hf⟩ := gif hf
                              obtain ⟨r612, hr612, hf⟩ := obE hf
                              refine y_V1 X cv_RL_67 dL_law_612 g55 (c_X_spans d (Nat.le_trans (by decide) hd) l1 (sc (w32 (l3 + 1))) (sc (w32 (l3 + 2))) h r612 hr612) (as := [(0, sc (w32 (l3 + 1))), (0, sc (w32 (l3 + 2)))]) rfl rfl (Nat.le_of_ble_eq_true rfl) hz ?_
                              refine z_aload_n X dL_law_615 2 rfl ?_
                              refine z_aload_n X dL_law_616 0 rfl ?_
                              refine z_iload_n X dL_law_617 3 rfl ?_
                              refine z_iconst X dL_law_618 kc_1 ?_
                              refine z_iadd X dL_law_619 ?_
                              refine z_sld X hS g1 dL_law_620 g53.1 g53.2 ?_
                              refine z_aload_n X dL_law_621 0 rfl ?_
                              refine z_iload_n X dL_law_622 3 rfl ?_
                              refine z_iconst X dL_law_623 kc_2 ?_
                              refine z_iadd X dL_law_624 ?_
                              refine z_sld X hS g1 dL_law_625 g54.1 g54.2 ?_
                              obtain ⟨g56, hf⟩ := gif hf
                              obtain ⟨r626, hr626, hf⟩ := obE hf
                              refine y_V1 X cv_RL_70 dL_law_626 g56 (c_M_spans d (Nat.le_trans (by decide) hd) l2 (sc (w32 (l3 + 1))) (sc (w32 (l3 + 2))) r612.2 r626 hr626) (as := [(0, sc (w32 (l3 + 1))), (0, sc (w32 (l3 + 2)))]) rfl rfl (Nat.le_of_ble_eq_true rfl) hz ?_
                              refine z_icmp_eq X dL_law_629 rfl (fun hc629 => ?_) (fun hc629 => ?_)
                              · have hf := ift hc629 hf
                                exact (z_Lw_j1356 X hd sc L hS hz l0 l1 l2 l3 r626.2 _ hf E hx0 hk)
                              · have hf := iff' hc629 hf
                                cases hf
                            · have hf := iff' hc33_12 hf
                              by_cases hc33_13 : i_and (sc l3) 63 = 13
                              · have hf := ift hc33_13 hf
                                refine z_tsIn X dL_law_33 (by omega) (by omega) (by rw [hc33_13]; rfl) rfl ?_
                                refine z_aload_n X dL_law_634 1 rfl ?_
                                refine z_aload_n X dL_law_635 0 rfl ?_
                                refine z_iload_n X dL_law_636 3 rfl ?_
                                refine z_iconst X dL_law_637 kc_1 ?_
                                refine z_iadd X dL_law_638 ?_
                                obtain ⟨g57, hf⟩ := gif hf
                                refine z_sld X hS g1 dL_law_639 g57.1 g57.2 ?_
                                refine z_aload_n X dL_law_640 0 rfl ?_
                                refine z_iload_n X dL_law_641 3 rfl ?_
                                refine z_iconst X dL_law_642 kc_2 ?_
                                refine z_iadd X dL_law_643 ?_
                                obtain ⟨g58, hf⟩ := gif hf
                                refine z_sld X hS g1 dL_law_644 g58.1 g58.2 ?_
                                refine z_aload_n X dL_law_645 0 rfl ?_
                                refine z_iload_n X dL_law_646 3 rfl ?_
                                refine z_iconst X dL_law_647 kc_3 ?_
                                refine z_iadd X dL_law_648 ?_
                                obtain ⟨g59, hf⟩ := gif hf
                                refine z_sld X hS g1 dL_law_649 g59.1 g59.2 ?_
                                refine z_aload_n X dL_law_650 0 rfl ?_
                                refine z_iload_n X dL_law_651 3 rfl ?_
                                refine z_iconst X dL_law_652 kc_4 ?_
                                refine z_iadd X dL_law_653 ?_
                                obtain ⟨g60, hf⟩ := gif hf
                                refine z_sld X hS g1 dL_law_654 g60.1 g60.2 ?_
                                obtain ⟨g61, hf⟩ := gif hf
                                obtain ⟨r655, hr655, hf⟩ := obE hf
                                refine y_V1 X cv_RL_71 dL_law_655 g61 (c_X_around d (Nat.le_trans (by decide) hd) l1 (sc (w32 (l3 + 1))) (sc (w32 (l3 + 2))) (sc (w32 (l3 + 3))) (sc (w32 (l3 + 4))) h r655 hr655) (as := [(0, sc (w32 (l3 + 1))), (0, sc (w32 (l3 + 2))), (0, sc (w32 (l3 + 3))), (0, sc (w32 (l3 + 4)))]) rfl rfl (Nat.le_of_ble_eq_true rfl) hz ?_
                                refine z_aload_n X dL_law_658 2 rfl ?_
                                refine z_aload_n X dL_law_659 0 rfl ?_
                                refine z_iload_n X dL_law_660 3 rfl ?_
                                refine z_iconst X dL_law_661 kc_1 ?_
                                refine z_iadd X dL_law_662 ?_
                                refine z_sld X hS g1 dL_law_663 g57.1 g57.2 ?_
                                refine z_aload_n X dL_law_664 0 rfl ?_
                                refine z_iload_n X dL_law_665 3 rfl ?_
                                refine z_iconst X dL_law_666 kc_2 ?_
                                refine z_iadd X dL_law_667 ?_
                                refine z_sld X hS g1 dL_law_668 g58.1 g58.2 ?_
                                refine z_aload_n X dL_law_669 0 rfl ?_
                                refine z_iload_n X dL_law_670 3 rfl ?_
                                refine z_iconst X dL_law_671 kc_3 ?_
                                refine z_iadd X dL_law_672 ?_
                                refine z_sld X hS g1 dL_law_673 g59.1 g59.2 ?_
                                refine z_aload_n X dL_law_674 0 rfl ?_
                                refine z_iload_n X dL_law_675 3 rfl ?_
                                refine z_iconst X dL_law_676 kc_4 ?_
                                refine z_iadd X dL_law_677 ?_
                                refine z_sld X hS g1 dL_law_678 g60.1 g60.2 ?_
                                obtain ⟨g62, hf⟩ := gif hf
                                obtain ⟨r679, hr679, hf⟩ := obE hf
                                refine y_V1 X cv_RL_75 dL_law_679 g62 (c_M_around d (Nat.le_trans (by decide) hd) l2 (sc (w32 (l3 + 1))) (sc (w32 (l3 + 2))) (sc (w32 (l3 + 3))) (sc (w32 (l3 + 4))) r655.2 r679 hr679) (as := [(0, sc (w32 (l3 + 1))), (0, sc (w32 (l3 + 2))), (0, sc (w32 (l3 + 3))), (0, sc (w32 (l3 + 4)))]) rfl rfl (Nat.le_of_ble_eq_true rfl) hz ?_
                                refine z_icmp_eq X dL_law_682 rfl (fun hc682 => ?_) (fun hc682 => ?_)
                                · have hf := ift hc682 hf
                                  exact (z_Lw_j1356 X hd sc L hS hz l0 l1 l2 l3 r679.2 _ hf E hx0 hk)
                                · have hf := iff' hc682 hf
                                  cases hf
                              · have hf := iff' hc33_13 hf
                                by_cases hc33_14 : i_and (sc l3) 63 = 14
                                · have hf := ift hc33_14 hf
                                  refine z_tsIn X dL_law_33 (by omega) (by omega) (by rw [hc33_14]; rfl) rfl ?_
                                  refine z_aload_n X dL_law_687 1 rfl ?_
                                  obtain ⟨g63, hf⟩ := gif hf
                                  obtain ⟨r688, hr688, hf⟩ := obE hf
                                  refine y_V1 X cv_RL_76 dL_law_688 g63 (c_X_reads d (Nat.le_trans (by decide) hd) l1 h r688 hr688) (as := []) rfl rfl (Nat.le_of_ble_eq_true rfl) hz ?_
                                  refine z_aload_n X dL_law_691 2 rfl ?_
                                  obtain ⟨g64, hf⟩ := gif hf
                                  obtain ⟨r692, hr692, hf⟩ := obE hf
                                  refine y_V1 X cv_RL_79 dL_law_692 g64 (c_M_reads d (Nat.le_trans (by decide) hd) l2 r688.2 r692 hr692) (as := []) rfl rfl (Nat.le_of_ble_eq_true rfl) hz ?_
                                  refine z_icmp_eq X dL_law_695 rfl (fun hc695 => ?_) (fun hc695 => ?_)
                                  · have hf := ift hc695 hf
                                    exact (z_Lw_j1356 X hd sc L hS hz l0 l1 l2 l3 r692.2 _ hf E hx0 hk)
                                  · have hf := iff' hc695 hf
                                    cases hf
                                · have hf := iff' hc33_14 hf
                                  by_cases hc33_15 : i_and (sc l3) 63 = 15
                                  · have hf := ift hc33_15 hf
                                    refine z_tsIn X dL_law_33 (by omega) (by omega) (by rw [hc33_15]; rfl) rfl ?_
                                    refine z_aload_n X dL_law_700 1 rfl ?_
                                    obtain ⟨g65, hf⟩ := gif hf
                                    obtain ⟨r701, hr701, hf⟩ := obE hf
                                    refine y_V1 X cv_RL_80 dL_law_701 g65 (c_X_heads d (Nat.le_trans (by decide) hd) l1 h r701 hr701) (as := []) rfl rfl (Nat.le_of_ble_eq_true rfl) hz ?_
                                    refine z_aload_n X dL_law_704 2 rfl ?_
                                    obtain ⟨g66, hf⟩ := gif hf
                                    obtain ⟨r705, hr705, hf⟩ := obE hf
                                    refine y_V1 X cv_RL_83 dL_law_705 g66 (c_M_heads d (Nat.le_trans (by decide) hd) l2 r701.2 r705 hr705) (as := []) rfl rfl (Nat.le_of_ble_eq_true rfl) hz ?_
                                    refine z_icmp_eq X dL_law_708 rfl (fun hc708 => ?_) (fun hc708 => ?_)
                                    · have hf := ift hc708 hf
                                      exact (z_Lw_j1356 X hd sc L hS hz l0 l1 l2 l3 r705.2 _ hf E hx0 hk)
                                    · have hf := iff' hc708 hf
                                      cases hf
                                  · have hf := iff' hc33_15 hf
                                    by_cases hc33_16 : i_and (sc l3) 63 = 16
                                    · have hf := ift hc33_16 hf
                                      refine z_tsIn X dL_law_33 (by omega) (by omega) (by rw [hc33_16]; rfl) rfl ?_
                                      refine z_aload_n X dL_law_713 1 rfl ?_
                                      obtain ⟨g67, hf⟩ := gif hf
                                      obtain ⟨r714, hr714, hf⟩ := obE hf
                                      refine y_V1 X cv_RL_84 dL_law_714 g67 (c_X_ways d (Nat.le_trans (by decide) hd) l1 h r714 hr714) (as := []) rfl rfl (Nat.le_of_ble_eq_true rfl) hz ?_
                                      refine z_aload_n X dL_law_717 2 rfl ?_
                                      obtain ⟨g68, hf⟩ := gif hf
                                      obtain ⟨r718, hr718, hf⟩ := obE hf
                                      refine y_V1 X cv_RL_88 dL_law_718 g68 (c_M_ways d (Nat.le_trans (by decide) hd) l2 r714.2 r718 hr718) (as := []) rfl rfl (Nat.le_of_ble_eq_true rfl) hz ?_
                                      refine z_l_eq X dL_law_721 dL_law_722 rfl (fun hc721 => ?_) (fun hc721 => ?_)
                                      · have hf := ift hc721 hf
                                        exact (z_Lw_j1356 X hd sc L hS hz l0 l1 l2 l3 r718.2 _ hf E hx0 hk)
                                      · have hf := iff' hc721 hf
                                        cases hf
                                    · have hf := iff' hc33_16 hf
                                      by_cases hc33_17 : i_and (sc l3) 63 = 17
                                      · have hf := ift hc33_17 hf
                                        refine z_tsIn X dL_law_33 (by omega) (by omega) (by rw [hc33_17]; rfl) rfl ?_
                                        refine z_aload_n X dL_law_727 1 rfl ?_
                                        refine z_aload_n X dL_law_728 0 rfl ?_
                                        refine z_iload_n X dL_law_729 3 rfl ?_
                                        refine z_iconst X dL_law_730 kc_1 ?_
                                        refine z_iadd X dL_law_731 ?_
                                        obtain ⟨g69, hf⟩ := gif hf
                                        refine z_sld X hS g1 dL_law_732 g69.1 g69.2 ?_
                                        obtain ⟨g70, hf⟩ := gif hf
                                        obtain ⟨r733, hr733, hf⟩ := obE hf
                                        refine y_V1 X cv_RL_89 dL_law_733 g70 (c_X_without d (Nat.le_trans (by decide) hd) l1 (sc (w32 (l3 + 1))) h r733 hr733) (as := [(0, sc (w32 (l3 + 1)))]) rfl rfl (Nat.le_of_ble_eq_true rfl) hz ?_
                                        refine z_aload_n X dL_law_736 2 rfl ?_
                                        refine z_aload_n X dL_law_737 0 rfl ?_
                                        refine z_iload_n X dL_law_738 3 rfl ?_
                                        refine z_iconst X dL_law_739 kc_1 ?_
                                        refine z_iadd X dL_law_740 ?_
                                        refine z_sld X hS g1 dL_law_741 g69.1 g69.2 ?_
                                        obtain ⟨g71, hf⟩ := gif hf
                                        obtain ⟨r742, hr742, hf⟩ := obE hf
                                        refine y_V1 X cv_RL_93 dL_law_742 g71 (c_M_without d (Nat.le_trans (by decide) hd) l2 (sc (w32 (l3 + 1))) r733.2 r742 hr742) (as := [(0, sc (w32 (l3 + 1)))]) rfl rfl (Nat.le_of_ble_eq_true rfl) hz ?_
                                        refine z_l_eq X dL_law_745 dL_law_746 rfl (fun hc745 => ?_) (fun hc745 => ?_)
                                        · have hf := ift hc745 hf
                                          exact (z_Lw_j1356 X hd sc L hS hz l0 l1 l2 l3 r742.2 _ hf E hx0 hk)
                                        · have hf := iff' hc745 hf
                                          cases hf
                                      · have hf := iff' hc33_17 hf
                                        by_cases hc33_18 : i_and (sc l3) 63 = 18
                                        · have hf := ift hc33_18 hf
                                          refine z_tsIn X dL_law_33 (by omega) (by omega) (by rw [hc33_18]; rfl) rfl ?_
                                          refine z_aload_n X dL_law_751 1 rfl ?_
                                          refine z_aload_n X dL_law_752 0 rfl ?_
                                          refine z_iload_n X dL_law_753 3 rfl ?_
                                          refine z_iconst X dL_law_754 kc_1 ?_
                                          refine z_iadd X dL_law_755 ?_
                                          obtain ⟨g72, hf⟩ := gif hf
                                          refine z_sld X hS g1 dL_law_756 g72.1 g72.2 ?_
                                          obtain ⟨g73, hf⟩ := gif hf
                                          obtain ⟨r757, hr757, hf⟩ := obE hf
                                          refine y_V1 X cv_RL_94 dL_law_757 g73 (c_X_lengths d (Nat.le_trans (by decide) hd) l1 (sc (w32 (l3 + 1))) h r757 hr757) (as := [(0, sc (w32 (l3 + 1)))]) rfl rfl (Nat.le_of_ble_eq_true rfl) hz ?_
                                          refine z_aload_n X dL_law_760 2 rfl ?_
                                          refine z_aload_n X dL_law_761 0 rfl ?_
                                          refine z_iload_n X dL_law_762 3 rfl ?_
                                          refine z_iconst X dL_law_763 kc_1 ?_
                                          refine z_iadd X dL_law_764 ?_
                                          refine z_sld X hS g1 dL_law_765 g72.1 g72.2 ?_
                                          obtain ⟨g74, hf⟩ := gif hf
                                          obtain ⟨r766, hr766, hf⟩ := obE hf
                                          refine y_V1 X cv_RL_97 dL_law_766 g74 (c_M_lengths d (Nat.le_trans (by decide) hd) l2 (sc (w32 (l3 + 1))) r757.2 r766 hr766) (as := [(0, sc (w32 (l3 + 1)))]) rfl rfl (Nat.le_of_ble_eq_true rfl) hz ?_
                                          refine z_icmp_eq X dL_law_769 rfl (fun hc769 => ?_) (fun hc769 => ?_)
                                          · have hf := ift hc769 hf
                                            exact (z_Lw_j1356 X hd sc L hS hz l0 l1 l2 l3 r766.2 _ hf E hx0 hk)
                                          · have hf := iff' hc769 hf
                                            cases hf
                                        · have hf := iff' hc33_18 hf
                                          by_cases hc33_19 : i_and (sc l3) 63 = 19
                                          · have hf := ift hc33_19 hf
                                            refine z_tsIn X dL_law_33 (by omega) (by omega) (by rw [hc33_19]; rfl) rfl ?_
                                            refine z_aload_n X dL_law_774 1 rfl ?_
                                            refine z_aload_n X dL_law_775 0 rfl ?_
                                            refine z_iload_n X dL_law_776 3 rfl ?_
                                            refine z_iconst X dL_law_777 kc_1 ?_
                                            refine z_iadd X dL_law_778 ?_
                                            obtain ⟨g75, hf⟩ := gif hf
                                            refine z_sld X hS g1 dL_law_779 g75.1 g75.2 ?_
                                            refine z_i2l X dL_law_780 ?_
                                            refine z_bipush X dL_law_781 kb_32 kc_32 ?_
                                            refine z_lshl X dL_law_783 ?_
                                            refine z_aload_n X dL_law_784 0 rfl ?_
                                            refine z_iload_n X dL_law_785 3 rfl ?_
                                            refine z_iconst X dL_law_786 kc_2 ?_
                                            refine z_iadd X dL_law_787 ?_
                                            obtain ⟨g76, hf⟩ := gif hf
                                            refine z_sld X hS g1 dL_law_788 g76.1 g76.2 ?_
                                            refine z_i2l X dL_law_789 ?_
                                            refine z_ldc2 X kj_RL_98 kl_4294967295 dL_law_790 ?_
                                            refine z_land X dL_law_793 ?_
                                            refine z_lor X dL_law_794 ?_
                                            obtain ⟨g77, hf⟩ := gif hf
                                            obtain ⟨r795, hr795, hf⟩ := obE hf
                                            refine y_V1 X cv_RL_100 dL_law_795 g77 (c_X_steps d (Nat.le_trans (by decide) hd) l1 (l_or (l_shl (sc (w32 (l3 + 1))) 32) (l_and (sc (w32 (l3 + 2))) 4294967295)) h r795 hr795) (as := [(1, l_or (l_shl (sc (w32 (l3 + 1))) 32) (l_and (sc (w32 (l3 + 2))) 4294967295))]) rfl rfl (Nat.le_of_ble_eq_true rfl) hz ?_
                                            refine z_aload_n X dL_law_798 2 rfl ?_
                                            refine z_aload_n X dL_law_799 0 rfl ?_
                                            refine z_iload_n X dL_law_800 3 rfl ?_
                                            refine z_iconst X dL_law_801 kc_1 ?_
                                            refine z_iadd X dL_law_802 ?_
                                            refine z_sld X hS g1 dL_law_803 g75.1 g75.2 ?_
                                            refine z_i2l X dL_law_804 ?_
                                            refine z_bipush X dL_law_805 kb_32 kc_32 ?_
                                            refine z_lshl X dL_law_807 ?_
                                            refine z_aload_n X dL_law_808 0 rfl ?_
                                            refine z_iload_n X dL_law_809 3 rfl ?_
                                            refine z_iconst X dL_law_810 kc_2 ?_
                                            refine z_iadd X dL_law_811 ?_
                                            refine z_sld X hS g1 dL_law_812 g76.1 g76.2 ?_
                                            refine z_i2l X dL_law_813 ?_
                                            refine z_ldc2 X kj_RL_98 kl_4294967295 dL_law_814 ?_
                                            refine z_land X dL_law_817 ?_
                                            refine z_lor X dL_law_818 ?_
                                            obtain ⟨g78, hf⟩ := gif hf
                                            obtain ⟨r819, hr819, hf⟩ := obE hf
                                            refine y_V1 X cv_RL_104 dL_law_819 g78 (c_M_steps d (Nat.le_trans (by decide) hd) l2 (l_or (l_shl (sc (w32 (l3 + 1))) 32) (l_and (sc (w32 (l3 + 2))) 4294967295)) r795.2 r819 hr819) (as := [(1, l_or (l_shl (sc (w32 (l3 + 1))) 32) (l_and (sc (w32 (l3 + 2))) 4294967295))]) rfl rfl (Nat.le_of_ble_eq_true rfl) hz ?_
                                            refine z_icmp_eq X dL_law_822 rfl (fun hc822 => ?_) (fun hc822 => ?_)
                                            · have hf := ift hc822 hf
                                              exact (z_Lw_j1356 X hd sc L hS hz l0 l1 l2 l3 r819.2 _ hf E hx0 hk)
                                            · have hf := iff' hc822 hf
                                              cases hf
                                          · have hf := iff' hc33_19 hf
                                            by_cases hc33_20 : i_and (sc l3) 63 = 20
                                            · have hf := ift hc33_20 hf
                                              refine z_tsIn X dL_law_33 (by omega) (by omega) (by rw [hc33_20]; rfl) rfl ?_
                                              refine z_aload_n X dL_law_827 1 rfl ?_
                                              refine z_aload_n X dL_law_828 0 rfl ?_
                                              refine z_iload_n X dL_law_829 3 rfl ?_
                                              refine z_iconst X dL_law_830 kc_1 ?_
                                              refine z_iadd X dL_law_831 ?_
                                              obtain ⟨g79, hf⟩ := gif hf
                                              refine z_sld X hS g1 dL_law_832 g79.1 g79.2 ?_
                                              refine z_i2l X dL_law_833 ?_
                                              refine z_bipush X dL_law_834 kb_32 kc_32 ?_
                                              refine z_lshl X dL_law_836 ?_
                                              refine z_aload_n X dL_law_837 0 rfl ?_
                                              refine z_iload_n X dL_law_838 3 rfl ?_
                                              refine z_iconst X dL_law_839 kc_2 ?_
                                              refine z_iadd X dL_law_840 ?_
                                              obtain ⟨g80, hf⟩ := gif hf
                                              refine z_sld X hS g1 dL_law_841 g80.1 g80.2 ?_
                                              refine z_i2l X dL_law_842 ?_
                                              refine z_ldc2 X kj_RL_98 kl_4294967295 dL_law_843 ?_
                                              refine z_land X dL_law_846 ?_
                                              refine z_lor X dL_law_847 ?_
                                              refine z_aload_n X dL_law_848 0 rfl ?_
                                              refine z_iload_n X dL_law_849 3 rfl ?_
                                              refine z_iconst X dL_law_850 kc_3 ?_
                                              refine z_iadd X dL_law_851 ?_
                                              obtain ⟨g81, hf⟩ := gif hf
                                              refine z_sld X hS g1 dL_law_852 g81.1 g81.2 ?_
                                              refine z_aload_n X dL_law_853 0 rfl ?_
                                              refine z_iload_n X dL_law_854 3 rfl ?_
                                              refine z_iconst X dL_law_855 kc_4 ?_
                                              refine z_iadd X dL_law_856 ?_
                                              obtain ⟨g82, hf⟩ := gif hf
                                              refine z_sld X hS g1 dL_law_857 g82.1 g82.2 ?_
                                              obtain ⟨g83, hf⟩ := gif hf
                                              obtain ⟨r858, hr858, hf⟩ := obE hf
                                              refine y_V1 X cv_RL_105 dL_law_858 g83 (c_X_step d (Nat.le_trans (by decide) hd) l1 (l_or (l_shl (sc (w32 (l3 + 1))) 32) (l_and (sc (w32 (l3 + 2))) 4294967295)) (sc (w32 (l3 + 3))) (sc (w32 (l3 + 4))) h r858 hr858) (as := [(1, l_or (l_shl (sc (w32 (l3 + 1))) 32) (l_and (sc (w32 (l3 + 2))) 4294967295)), (0, sc (w32 (l3 + 3))), (0, sc (w32 (l3 + 4)))]) rfl rfl (Nat.le_of_ble_eq_true rfl) hz ?_
                                              refine z_aload_n X dL_law_861 2 rfl ?_
                                              refine z_aload_n X dL_law_862 0 rfl ?_
                                              refine z_iload_n X dL_law_863 3 rfl ?_
                                              refine z_iconst X dL_law_864 kc_1 ?_
                                              refine z_iadd X dL_law_865 ?_
                                              refine z_sld X hS g1 dL_law_866 g79.1 g79.2 ?_
                                              refine z_i2l X dL_law_867 ?_
                                              refine z_bipush X dL_law_868 kb_32 kc_32 ?_
                                              refine z_lshl X dL_law_870 ?_
                                              refine z_aload_n X dL_law_871 0 rfl ?_
                                              refine z_iload_n X dL_law_872 3 rfl ?_
                                              refine z_iconst X dL_law_873 kc_2 ?_
                                              refine z_iadd X dL_law_874 ?_
                                              refine z_sld X hS g1 dL_law_875 g80.1 g80.2 ?_
                                              refine z_i2l X dL_law_876 ?_
                                              refine z_ldc2 X kj_RL_98 kl_4294967295 dL_law_877 ?_
                                              refine z_land X dL_law_880 ?_
                                              refine z_lor X dL_law_881 ?_
                                              refine z_aload_n X dL_law_882 0 rfl ?_
                                              refine z_iload_n X dL_law_883 3 rfl ?_
                                              refine z_iconst X dL_law_884 kc_3 ?_
                                              refine z_iadd X dL_law_885 ?_
                                              refine z_sld X hS g1 dL_law_886 g81.1 g81.2 ?_
                                              refine z_aload_n X dL_law_887 0 rfl ?_
                                              refine z_iload_n X dL_law_888 3 rfl ?_
                                              refine z_iconst X dL_law_889 kc_4 ?_
                                              refine z_iadd X dL_law_890 ?_
                                              refine z_sld X hS g1 dL_law_891 g82.1 g82.2 ?_
                                              obtain ⟨g84, hf⟩ := gif hf
                                              obtain ⟨r892, hr892, hf⟩ := obE hf
                                              refine y_V1 X cv_RL_109 dL_law_892 g84 (c_M_step d (Nat.le_trans (by decide) hd) l2 (l_or (l_shl (sc (w32 (l3 + 1))) 32) (l_and (sc (w32 (l3 + 2))) 4294967295)) (sc (w32 (l3 + 3))) (sc (w32 (l3 + 4))) r858.2 r892 hr892) (as := [(1, l_or (l_shl (sc (w32 (l3 + 1))) 32) (l_and (sc (w32 (l3 + 2))) 4294967295)), (0, sc (w32 (l3 + 3))), (0, sc (w32 (l3 + 4)))]) rfl rfl (Nat.le_of_ble_eq_true rfl) hz ?_
                                              refine z_icmp_eq X dL_law_895 rfl (fun hc895 => ?_) (fun hc895 => ?_)
                                              · have hf := ift hc895 hf
                                                exact (z_Lw_j1356 X hd sc L hS hz l0 l1 l2 l3 r892.2 _ hf E hx0 hk)
                                              · have hf := iff' hc895 hf
                                                cases hf
                                            · have hf := iff' hc33_20 hf
                                              by_cases hc33_21 : i_and (sc l3) 63 = 21
                                              · have hf := ift hc33_21 hf
                                                refine z_tsIn X dL_law_33 (by omega) (by omega) (by rw [hc33_21]; rfl) rfl ?_
                                                refine z_aload_n X dL_law_900 1 rfl ?_
                                                refine z_aload_n X dL_law_901 0 rfl ?_
                                                refine z_iload_n X dL_law_902 3 rfl ?_
                                                refine z_iconst X dL_law_903 kc_1 ?_
                                                refine z_iadd X dL_law_904 ?_
                                                obtain ⟨g85, hf⟩ := gif hf
                                                refine z_sld X hS g1 dL_law_905 g85.1 g85.2 ?_
                                                refine z_i2l X dL_law_906 ?_
                                                refine z_bipush X dL_law_907 kb_32 kc_32 ?_
                                                refine z_lshl X dL_law_909 ?_
                                                refine z_aload_n X dL_law_910 0 rfl ?_
                                                refine z_iload_n X dL_law_911 3 rfl ?_
                                                refine z_iconst X dL_law_912 kc_2 ?_
                                                refine z_iadd X dL_law_913 ?_
                                                obtain ⟨g86, hf⟩ := gif hf
                                                refine z_sld X hS g1 dL_law_914 g86.1 g86.2 ?_
                                                refine z_i2l X dL_law_915 ?_
                                                refine z_ldc2 X kj_RL_98 kl_4294967295 dL_law_916 ?_
                                                refine z_land X dL_law_919 ?_
                                                refine z_lor X dL_law_920 ?_
                                                refine z_aload_n X dL_law_921 0 rfl ?_
                                                refine z_iload_n X dL_law_922 3 rfl ?_
                                                refine z_iconst X dL_law_923 kc_3 ?_
                                                refine z_iadd X dL_law_924 ?_
                                                obtain ⟨g87, hf⟩ := gif hf
                                                refine z_sld X hS g1 dL_law_925 g87.1 g87.2 ?_
                                                refine z_aload_n X dL_law_926 0 rfl ?_
                                                refine z_iload_n X dL_law_927 3 rfl ?_
                                                refine z_iconst X dL_law_928 kc_4 ?_
                                                refine z_iadd X dL_law_929 ?_
                                                obtain ⟨g88, hf⟩ := gif hf
                                                refine z_sld X hS g1 dL_law_930 g88.1 g88.2 ?_
                                                obtain ⟨g89, hf⟩ := gif hf
                                                obtain ⟨r931, hr931, hf⟩ := obE hf
                                                refine y_V1 X cv_RL_110 dL_law_931 g89 (c_X_whose d (Nat.le_trans (by decide) hd) l1 (l_or (l_shl (sc (w32 (l3 + 1))) 32) (l_and (sc (w32 (l3 + 2))) 4294967295)) (sc (w32 (l3 + 3))) (sc (w32 (l3 + 4))) h r931 hr931) (as := [(1, l_or (l_shl (sc (w32 (l3 + 1))) 32) (l_and (sc (w32 (l3 + 2))) 4294967295)), (0, sc (w32 (l3 + 3))), (0, sc (w32 (l3 + 4)))]) rfl rfl (Nat.le_of_ble_eq_true rfl) hz ?_
                                                refine z_aload_n X dL_law_934 2 rfl ?_
                                                refine z_aload_n X dL_law_935 0 rfl ?_
                                                refine z_iload_n X dL_law_936 3 rfl ?_
                                                refine z_iconst X dL_law_937 kc_1 ?_
                                                refine z_iadd X dL_law_938 ?_
                                                refine z_sld X hS g1 dL_law_939 g85.1 g85.2 ?_
                                                refine z_i2l X dL_law_940 ?_
                                                refine z_bipush X dL_law_941 kb_32 kc_32 ?_
                                                refine z_lshl X dL_law_943 ?_
                                                refine z_aload_n X dL_law_944 0 rfl ?_
                                                refine z_iload_n X dL_law_945 3 rfl ?_
                                                refine z_iconst X dL_law_946 kc_2 ?_
                                                refine z_iadd X dL_law_947 ?_
                                                refine z_sld X hS g1 dL_law_948 g86.1 g86.2 ?_
                                                refine z_i2l X dL_law_949 ?_
                                                refine z_ldc2 X kj_RL_98 kl_4294967295 dL_law_950 ?_
                                                refine z_land X dL_law_953 ?_
                                                refine z_lor X dL_law_954 ?_
                                                refine z_aload_n X dL_law_955 0 rfl ?_
                                                refine z_iload_n X dL_law_956 3 rfl ?_
                                                refine z_iconst X dL_law_957 kc_3 ?_
                                                refine z_iadd X dL_law_958 ?_
                                                refine z_sld X hS g1 dL_law_959 g87.1 g87.2 ?_
                                                refine z_aload_n X dL_law_960 0 rfl ?_
                                                refine z_iload_n X dL_law_961 3 rfl ?_
                                                refine z_iconst X dL_law_962 kc_4 ?_
                                                refine z_iadd X dL_law_963 ?_
                                                refine z_sld X hS g1 dL_law_964 g88.1 g88.2 ?_
                                                obtain ⟨g90, hf⟩ := gif hf
                                                obtain ⟨r965, hr965, hf⟩ := obE hf
                                                refine y_V1 X cv_RL_113 dL_law_965 g90 (c_M_whose d (Nat.le_trans (by decide) hd) l2 (l_or (l_shl (sc (w32 (l3 + 1))) 32) (l_and (sc (w32 (l3 + 2))) 4294967295)) (sc (w32 (l3 + 3))) (sc (w32 (l3 + 4))) r931.2 r965 hr965) (as := [(1, l_or (l_shl (sc (w32 (l3 + 1))) 32) (l_and (sc (w32 (l3 + 2))) 4294967295)), (0, sc (w32 (l3 + 3))), (0, sc (w32 (l3 + 4)))]) rfl rfl (Nat.le_of_ble_eq_true rfl) hz ?_
                                                refine z_icmp_eq X dL_law_968 rfl (fun hc968 => ?_) (fun hc968 => ?_)
                                                · have hf := ift hc968 hf
                                                  exact (z_Lw_j1356 X hd sc L hS hz l0 l1 l2 l3 r965.2 _ hf E hx0 hk)
                                                · have hf := iff' hc968 hf
                                                  cases hf
                                              · have hf := iff' hc33_21 hf
                                                by_cases hc33_22 : i_and (sc l3) 63 = 22
                                                · have hf := ift hc33_22 hf
                                                  refine z_tsIn X dL_law_33 (by omega) (by omega) (by rw [hc33_22]; rfl) rfl ?_
                                                  refine z_aload_n X dL_law_973 1 rfl ?_
                                                  refine z_aload_n X dL_law_974 0 rfl ?_
                                                  refine z_iload_n X dL_law_975 3 rfl ?_
                                                  refine z_iconst X dL_law_976 kc_1 ?_
                                                  refine z_iadd X dL_law_977 ?_
                                                  obtain ⟨g91, hf⟩ := gif hf
                                                  refine z_sld X hS g1 dL_law_978 g91.1 g91.2 ?_
                                                  refine z_i2l X dL_law_979 ?_
                                                  refine z_bipush X dL_law_980 kb_32 kc_32 ?_
                                                  refine z_lshl X dL_law_982 ?_
                                                  refine z_aload_n X dL_law_983 0 rfl ?_
                                                  refine z_iload_n X dL_law_984 3 rfl ?_
                                                  refine z_iconst X dL_law_985 kc_2 ?_
                                                  refine z_iadd X dL_law_986 ?_
                                                  obtain ⟨g92, hf⟩ := gif hf
                                                  refine z_sld X hS g1 dL_law_987 g92.1 g92.2 ?_
                                                  refine z_i2l X dL_law_988 ?_
                                                  refine z_ldc2 X kj_RL_98 kl_4294967295 dL_law_989 ?_
                                                  refine z_land X dL_law_992 ?_
                                                  refine z_lor X dL_law_993 ?_
                                                  refine z_aload_n X dL_law_994 0 rfl ?_
                                                  refine z_iload_n X dL_law_995 3 rfl ?_
                                                  refine z_iconst X dL_law_996 kc_3 ?_
                                                  refine z_iadd X dL_law_997 ?_
                                                  obtain ⟨g93, hf⟩ := gif hf
                                                  refine z_sld X hS g1 dL_law_998 g93.1 g93.2 ?_
                                                  obtain ⟨g94, hf⟩ := gif hf
                                                  obtain ⟨r999, hr999, hf⟩ := obE hf
                                                  refine y_V1 X cv_RL_114 dL_law_999 g94 (c_X_arcs d (Nat.le_trans (by decide) hd) l1 (l_or (l_shl (sc (w32 (l3 + 1))) 32) (l_and (sc (w32 (l3 + 2))) 4294967295)) (sc (w32 (l3 + 3))) h r999 hr999) (as := [(1, l_or (l_shl (sc (w32 (l3 + 1))) 32) (l_and (sc (w32 (l3 + 2))) 4294967295)), (0, sc (w32 (l3 + 3)))]) rfl rfl (Nat.le_of_ble_eq_true rfl) hz ?_
                                                  refine z_aload_n X dL_law_1002 2 rfl ?_
                                                  refine z_aload_n X dL_law_1003 0 rfl ?_
                                                  refine z_iload_n X dL_law_1004 3 rfl ?_
                                                  refine z_iconst X dL_law_1005 kc_1 ?_
                                                  refine z_iadd X dL_law_1006 ?_
                                                  refine z_sld X hS g1 dL_law_1007 g91.1 g91.2 ?_
                                                  refine z_i2l X dL_law_1008 ?_
                                                  refine z_bipush X dL_law_1009 kb_32 kc_32 ?_
                                                  refine z_lshl X dL_law_1011 ?_
                                                  refine z_aload_n X dL_law_1012 0 rfl ?_
                                                  refine z_iload_n X dL_law_1013 3 rfl ?_
                                                  refine z_iconst X dL_law_1014 kc_2 ?_
                                                  refine z_iadd X dL_law_1015 ?_
                                                  refine z_sld X hS g1 dL_law_1016 g92.1 g92.2 ?_
                                                  refine z_i2l X dL_law_1017 ?_
                                                  refine z_ldc2 X kj_RL_98 kl_4294967295 dL_law_1018 ?_
                                                  refine z_land X dL_law_1021 ?_
                                                  refine z_lor X dL_law_1022 ?_
                                                  refine z_aload_n X dL_law_1023 0 rfl ?_
                                                  refine z_iload_n X dL_law_1024 3 rfl ?_
                                                  refine z_iconst X dL_law_1025 kc_3 ?_
                                                  refine z_iadd X dL_law_1026 ?_
                                                  refine z_sld X hS g1 dL_law_1027 g93.1 g93.2 ?_
                                                  obtain ⟨g95, hf⟩ := gif hf
                                                  obtain ⟨r1028, hr1028, hf⟩ := obE hf
                                                  refine y_V1 X cv_RL_118 dL_law_1028 g95 (c_M_arcs d (Nat.le_trans (by decide) hd) l2 (l_or (l_shl (sc (w32 (l3 + 1))) 32) (l_and (sc (w32 (l3 + 2))) 4294967295)) (sc (w32 (l3 + 3))) r999.2 r1028 hr1028) (as := [(1, l_or (l_shl (sc (w32 (l3 + 1))) 32) (l_and (sc (w32 (l3 + 2))) 4294967295)), (0, sc (w32 (l3 + 3)))]) rfl rfl (Nat.le_of_ble_eq_true rfl) hz ?_
                                                  refine z_icmp_eq X dL_law_1031 rfl (fun hc1031 => ?_) (fun hc1031 => ?_)
                                                  · have hf := ift hc1031 hf
                                                    exact (z_Lw_j1356 X hd sc L hS hz l0 l1 l2 l3 r1028.2 _ hf E hx0 hk)
                                                  · have hf := iff' hc1031 hf
                                                    cases hf
                                                · have hf := iff' hc33_22 hf
                                                  by_cases hc33_23 : i_and (sc l3) 63 = 23
                                                  · have hf := ift hc33_23 hf
                                                    refine z_tsIn X dL_law_33 (by omega) (by omega) (by rw [hc33_23]; rfl) rfl ?_
                                                    refine z_aload_n X dL_law_1036 1 rfl ?_
                                                    refine z_aload_n X dL_law_1037 0 rfl ?_
                                                    refine z_iload_n X dL_law_1038 3 rfl ?_
                                                    refine z_iconst X dL_law_1039 kc_1 ?_
                                                    refine z_iadd X dL_law_1040 ?_
                                                    obtain ⟨g96, hf⟩ := gif hf
                                                    refine z_sld X hS g1 dL_law_1041 g96.1 g96.2 ?_
                                                    refine z_i2l X dL_law_1042 ?_
                                                    refine z_bipush X dL_law_1043 kb_32 kc_32 ?_
                                                    refine z_lshl X dL_law_1045 ?_
                                                    refine z_aload_n X dL_law_1046 0 rfl ?_
                                                    refine z_iload_n X dL_law_1047 3 rfl ?_
                                                    refine z_iconst X dL_law_1048 kc_2 ?_
                                                    refine z_iadd X dL_law_1049 ?_
                                                    obtain ⟨g97, hf⟩ := gif hf
                                                    refine z_sld X hS g1 dL_law_1050 g97.1 g97.2 ?_
                                                    refine z_i2l X dL_law_1051 ?_
                                                    refine z_ldc2 X kj_RL_98 kl_4294967295 dL_law_1052 ?_
                                                    refine z_land X dL_law_1055 ?_
                                                    refine z_lor X dL_law_1056 ?_
                                                    refine z_aload_n X dL_law_1057 0 rfl ?_
                                                    refine z_iload_n X dL_law_1058 3 rfl ?_
                                                    refine z_iconst X dL_law_1059 kc_3 ?_
                                                    refine z_iadd X dL_law_1060 ?_
                                                    obtain ⟨g98, hf⟩ := gif hf
                                                    refine z_sld X hS g1 dL_law_1061 g98.1 g98.2 ?_
                                                    obtain ⟨g99, hf⟩ := gif hf
                                                    obtain ⟨r1062, hr1062, hf⟩ := obE hf
                                                    refine y_V1 X cv_RL_119 dL_law_1062 g99 (c_X_grown d (Nat.le_trans (by decide) hd) l1 (l_or (l_shl (sc (w32 (l3 + 1))) 32) (l_and (sc (w32 (l3 + 2))) 4294967295)) (sc (w32 (l3 + 3))) h r1062 hr1062) (as := [(1, l_or (l_shl (sc (w32 (l3 + 1))) 32) (l_and (sc (w32 (l3 + 2))) 4294967295)), (0, sc (w32 (l3 + 3)))]) rfl rfl (Nat.le_of_ble_eq_true rfl) hz ?_
                                                    refine z_aload_n X dL_law_1065 2 rfl ?_
                                                    refine z_aload_n X dL_law_1066 0 rfl ?_
                                                    refine z_iload_n X dL_law_1067 3 rfl ?_
                                                    refine z_iconst X dL_law_1068 kc_1 ?_
                                                    refine z_iadd X dL_law_1069 ?_
                                                    refine z_sld X hS g1 dL_law_1070 g96.1 g96.2 ?_
                                                    refine z_i2l X dL_law_1071 ?_
                                                    refine z_bipush X dL_law_1072 kb_32 kc_32 ?_
                                                    refine z_lshl X dL_law_1074 ?_
                                                    refine z_aload_n X dL_law_1075 0 rfl ?_
                                                    refine z_iload_n X dL_law_1076 3 rfl ?_
                                                    refine z_iconst X dL_law_1077 kc_2 ?_
                                                    refine z_iadd X dL_law_1078 ?_
                                                    refine z_sld X hS g1 dL_law_1079 g97.1 g97.2 ?_
                                                    refine z_i2l X dL_law_1080 ?_
                                                    refine z_ldc2 X kj_RL_98 kl_4294967295 dL_law_1081 ?_
                                                    refine z_land X dL_law_1084 ?_
                                                    refine z_lor X dL_law_1085 ?_
                                                    refine z_aload_n X dL_law_1086 0 rfl ?_
                                                    refine z_iload_n X dL_law_1087 3 rfl ?_
                                                    refine z_iconst X dL_law_1088 kc_3 ?_
                                                    refine z_iadd X dL_law_1089 ?_
                                                    refine z_sld X hS g1 dL_law_1090 g98.1 g98.2 ?_
                                                    obtain ⟨g100, hf⟩ := gif hf
                                                    obtain ⟨r1091, hr1091, hf⟩ := obE hf
                                                    refine y_V1 X cv_RL_122 dL_law_1091 g100 (c_M_grown d (Nat.le_trans (by decide) hd) l2 (l_or (l_shl (sc (w32 (l3 + 1))) 32) (l_and (sc (w32 (l3 + 2))) 4294967295)) (sc (w32 (l3 + 3))) r1062.2 r1091 hr1091) (as := [(1, l_or (l_shl (sc (w32 (l3 + 1))) 32) (l_and (sc (w32 (l3 + 2))) 4294967295)), (0, sc (w32 (l3 + 3)))]) rfl rfl (Nat.le_of_ble_eq_true rfl) hz ?_
                                                    refine z_icmp_eq X dL_law_1094 rfl (fun hc1094 => ?_) (fun hc1094 => ?_)
                                                    · have hf := ift hc1094 hf
                                                      exact (z_Lw_j1356 X hd sc L hS hz l0 l1 l2 l3 r1091.2 _ hf E hx0 hk)
                                                    · have hf := iff' hc1094 hf
                                                      cases hf
                                                  · have hf := iff' hc33_23 hf
                                                    by_cases hc33_24 : i_and (sc l3) 63 = 24
                                                    · have hf := ift hc33_24 hf
                                                      refine z_tsIn X dL_law_33 (by omega) (by omega) (by rw [hc33_24]; rfl) rfl ?_
                                                      refine z_aload_n X dL_law_1099 1 rfl ?_
                                                      refine z_aload_n X dL_law_1100 0 rfl ?_
                                                      refine z_iload_n X dL_law_1101 3 rfl ?_
                                                      refine z_iconst X dL_law_1102 kc_1 ?_
                                                      refine z_iadd X dL_law_1103 ?_
                                                      obtain ⟨g101, hf⟩ := gif hf
                                                      refine z_sld X hS g1 dL_law_1104 g101.1 g101.2 ?_
                                                      refine z_i2l X dL_law_1105 ?_
                                                      refine z_bipush X dL_law_1106 kb_32 kc_32 ?_
                                                      refine z_lshl X dL_law_1108 ?_
                                                      refine z_aload_n X dL_law_1109 0 rfl ?_
                                                      refine z_iload_n X dL_law_1110 3 rfl ?_
                                                      refine z_iconst X dL_law_1111 kc_2 ?_
                                                      refine z_iadd X dL_law_1112 ?_
                                                      obtain ⟨g102, hf⟩ := gif hf
                                                      refine z_sld X hS g1 dL_law_1113 g102.1 g102.2 ?_
                                                      refine z_i2l X dL_law_1114 ?_
                                                      refine z_ldc2 X kj_RL_98 kl_4294967295 dL_law_1115 ?_
                                                      refine z_land X dL_law_1118 ?_
                                                      refine z_lor X dL_law_1119 ?_
                                                      obtain ⟨g103, hf⟩ := gif hf
                                                      obtain ⟨r1120, hr1120, hf⟩ := obE hf
                                                      refine y_V1 X cv_RL_123 dL_law_1120 g103 (c_X_tell d (Nat.le_trans (by decide) hd) l1 (l_or (l_shl (sc (w32 (l3 + 1))) 32) (l_and (sc (w32 (l3 + 2))) 4294967295)) h r1120 hr1120) (as := [(1, l_or (l_shl (sc (w32 (l3 + 1))) 32) (l_and (sc (w32 (l3 + 2))) 4294967295))]) rfl rfl (Nat.le_of_ble_eq_true rfl) hz ?_
                                                      refine z_aload_n X dL_law_1123 2 rfl ?_
                                                      refine z_aload_n X dL_law_1124 0 rfl ?_
                                                      refine z_iload_n X dL_law_1125 3 rfl ?_
                                                      refine z_iconst X dL_law_1126 kc_1 ?_
                                                      refine z_iadd X dL_law_1127 ?_
                                                      refine z_sld X hS g1 dL_law_1128 g101.1 g101.2 ?_
                                                      refine z_i2l X dL_law_1129 ?_
                                                      refine z_bipush X dL_law_1130 kb_32 kc_32 ?_
                                                      refine z_lshl X dL_law_1132 ?_
                                                      refine z_aload_n X dL_law_1133 0 rfl ?_
                                                      refine z_iload_n X dL_law_1134 3 rfl ?_
                                                      refine z_iconst X dL_law_1135 kc_2 ?_
                                                      refine z_iadd X dL_law_1136 ?_
                                                      refine z_sld X hS g1 dL_law_1137 g102.1 g102.2 ?_
                                                      refine z_i2l X dL_law_1138 ?_
                                                      refine z_ldc2 X kj_RL_98 kl_4294967295 dL_law_1139 ?_
                                                      refine z_land X dL_law_1142 ?_
                                                      refine z_lor X dL_law_1143 ?_
                                                      obtain ⟨g104, hf⟩ := gif hf
                                                      obtain ⟨r1144, hr1144, hf⟩ := obE hf
                                                      refine y_V1 X cv_RL_126 dL_law_1144 g104 (c_M_tell d (Nat.le_trans (by decide) hd) l2 (l_or (l_shl (sc (w32 (l3 + 1))) 32) (l_and (sc (w32 (l3 + 2))) 4294967295)) r1120.2 r1144 hr1144) (as := [(1, l_or (l_shl (sc (w32 (l3 + 1))) 32) (l_and (sc (w32 (l3 + 2))) 4294967295))]) rfl rfl (Nat.le_of_ble_eq_true rfl) hz ?_
                                                      refine z_icmp_eq X dL_law_1147 rfl (fun hc1147 => ?_) (fun hc1147 => ?_)
                                                      · have hf := ift hc1147 hf
                                                        exact (z_Lw_j1356 X hd sc L hS hz l0 l1 l2 l3 r1144.2 _ hf E hx0 hk)
                                                      · have hf := iff' hc1147 hf
                                                        cases hf
                                                    · have hf := iff' hc33_24 hf
                                                      by_cases hc33_25 : i_and (sc l3) 63 = 25
                                                      · have hf := ift hc33_25 hf
                                                        refine z_tsIn X dL_law_33 (by omega) (by omega) (by rw [hc33_25]; rfl) rfl ?_
                                                        refine z_aload_n X dL_law_1152 1 rfl ?_
                                                        refine z_aload_n X dL_law_1153 0 rfl ?_
                                                        refine z_iload_n X dL_law_1154 3 rfl ?_
                                                        refine z_iconst X dL_law_1155 kc_1 ?_
                                                        refine z_iadd X dL_law_1156 ?_
                                                        obtain ⟨g105, hf⟩ := gif hf
                                                        refine z_sld X hS g1 dL_law_1157 g105.1 g105.2 ?_
                                                        refine z_i2l X dL_law_1158 ?_
                                                        refine z_bipush X dL_law_1159 kb_32 kc_32 ?_
                                                        refine z_lshl X dL_law_1161 ?_
                                                        refine z_aload_n X dL_law_1162 0 rfl ?_
                                                        refine z_iload_n X dL_law_1163 3 rfl ?_
                                                        refine z_iconst X dL_law_1164 kc_2 ?_
                                                        refine z_iadd X dL_law_1165 ?_
                                                        obtain ⟨g106, hf⟩ := gif hf
                                                        refine z_sld X hS g1 dL_law_1166 g106.1 g106.2 ?_
                                                        refine z_i2l X dL_law_1167 ?_
                                                        refine z_ldc2 X kj_RL_98 kl_4294967295 dL_law_1168 ?_
                                                        refine z_land X dL_law_1171 ?_
                                                        refine z_lor X dL_law_1172 ?_
                                                        obtain ⟨g107, hf⟩ := gif hf
                                                        obtain ⟨r1173, hr1173, hf⟩ := obE hf
                                                        refine y_V1 X cv_RL_127 dL_law_1173 g107 (c_X_tellWay d (Nat.le_trans (by decide) hd) l1 (l_or (l_shl (sc (w32 (l3 + 1))) 32) (l_and (sc (w32 (l3 + 2))) 4294967295)) h r1173 hr1173) (as := [(1, l_or (l_shl (sc (w32 (l3 + 1))) 32) (l_and (sc (w32 (l3 + 2))) 4294967295))]) rfl rfl (Nat.le_of_ble_eq_true rfl) hz ?_
                                                        refine z_aload_n X dL_law_1176 2 rfl ?_
                                                        refine z_aload_n X dL_law_1177 0 rfl ?_
                                                        refine z_iload_n X dL_law_1178 3 rfl ?_
                                                        refine z_iconst X dL_law_1179 kc_1 ?_
                                                        refine z_iadd X dL_law_1180 ?_
                                                        refine z_sld X hS g1 dL_law_1181 g105.1 g105.2 ?_
                                                        refine z_i2l X dL_law_1182 ?_
                                                        refine z_bipush X dL_law_1183 kb_32 kc_32 ?_
                                                        refine z_lshl X dL_law_1185 ?_
                                                        refine z_aload_n X dL_law_1186 0 rfl ?_
                                                        refine z_iload_n X dL_law_1187 3 rfl ?_
                                                        refine z_iconst X dL_law_1188 kc_2 ?_
                                                        refine z_iadd X dL_law_1189 ?_
                                                        refine z_sld X hS g1 dL_law_1190 g106.1 g106.2 ?_
                                                        refine z_i2l X dL_law_1191 ?_
                                                        refine z_ldc2 X kj_RL_98 kl_4294967295 dL_law_1192 ?_
                                                        refine z_land X dL_law_1195 ?_
                                                        refine z_lor X dL_law_1196 ?_
                                                        obtain ⟨g108, hf⟩ := gif hf
                                                        obtain ⟨r1197, hr1197, hf⟩ := obE hf
                                                        refine y_V1 X cv_RL_130 dL_law_1197 g108 (c_M_tellWay d (Nat.le_trans (by decide) hd) l2 (l_or (l_shl (sc (w32 (l3 + 1))) 32) (l_and (sc (w32 (l3 + 2))) 4294967295)) r1173.2 r1197 hr1197) (as := [(1, l_or (l_shl (sc (w32 (l3 + 1))) 32) (l_and (sc (w32 (l3 + 2))) 4294967295))]) rfl rfl (Nat.le_of_ble_eq_true rfl) hz ?_
                                                        refine z_icmp_eq X dL_law_1200 rfl (fun hc1200 => ?_) (fun hc1200 => ?_)
                                                        · have hf := ift hc1200 hf
                                                          exact (z_Lw_j1356 X hd sc L hS hz l0 l1 l2 l3 r1197.2 _ hf E hx0 hk)
                                                        · have hf := iff' hc1200 hf
                                                          cases hf
                                                      · have hf := iff' hc33_25 hf
                                                        by_cases hc33_26 : i_and (sc l3) 63 = 26
                                                        · have hf := ift hc33_26 hf
                                                          refine z_tsIn X dL_law_33 (by omega) (by omega) (by rw [hc33_26]; rfl) rfl ?_
                                                          refine z_aload_n X dL_law_1205 1 rfl ?_
                                                          refine z_aload_n X dL_law_1206 0 rfl ?_
                                                          refine z_iload_n X dL_law_1207 3 rfl ?_
                                                          refine z_iconst X dL_law_1208 kc_1 ?_
                                                          refine z_iadd X dL_law_1209 ?_
                                                          obtain ⟨g109, hf⟩ := gif hf
                                                          refine z_sld X hS g1 dL_law_1210 g109.1 g109.2 ?_
                                                          obtain ⟨g110, hf⟩ := gif hf
                                                          obtain ⟨r1211, hr1211, hf⟩ := obE hf
                                                          refine y_V1 X cv_RL_131 dL_law_1211 g110 (c_X_octet d (Nat.le_trans (by decide) hd) l1 (sc (w32 (l3 + 1))) h r1211 hr1211) (as := [(0, sc (w32 (l3 + 1)))]) rfl rfl (Nat.le_of_ble_eq_true rfl) hz ?_
                                                          refine z_aload_n X dL_law_1214 2 rfl ?_
                                                          refine z_aload_n X dL_law_1215 0 rfl ?_
                                                          refine z_iload_n X dL_law_1216 3 rfl ?_
                                                          refine z_iconst X dL_law_1217 kc_1 ?_
                                                          refine z_iadd X dL_law_1218 ?_
                                                          refine z_sld X hS g1 dL_law_1219 g109.1 g109.2 ?_
                                                          obtain ⟨g111, hf⟩ := gif hf
                                                          obtain ⟨r1220, hr1220, hf⟩ := obE hf
                                                          refine y_V1 X cv_RL_134 dL_law_1220 g111 (c_M_octet d (Nat.le_trans (by decide) hd) l2 (sc (w32 (l3 + 1))) h r1220 hr1220) (as := [(0, sc (w32 (l3 + 1)))]) rfl rfl (Nat.le_of_ble_eq_true rfl) hz ?_
                                                          refine z_icmp_eq X dL_law_1223 rfl (fun hc1223 => ?_) (fun hc1223 => ?_)
                                                          · have hf := ift hc1223 hf
                                                            exact (z_Lw_j1356 X hd sc L hS hz l0 l1 l2 l3 h _ hf E hx0 hk)
                                                          · have hf := iff' hc1223 hf
                                                            cases hf
                                                        · have hf := iff' hc33_26 hf
                                                          by_cases hc33_27 : i_and (sc l3) 63 = 27
                                                          · have hf := ift hc33_27 hf
                                                            refine z_tsIn X dL_law_33 (by omega) (by omega) (by rw [hc33_27]; rfl) rfl ?_
                                                            refine z_aload_n X dL_law_1228 1 rfl ?_
                                                            obtain ⟨g112, hf⟩ := gif hf
                                                            obtain ⟨r1229, hr1229, hf⟩ := obE hf
                                                            refine y_V1 X cv_RL_135 dL_law_1229 g112 (c_X_test d (Nat.le_trans (by decide) hd) l1 h r1229 hr1229) (as := []) rfl rfl (Nat.le_of_ble_eq_true rfl) hz ?_
                                                            refine z_aload_n X dL_law_1232 2 rfl ?_
                                                            obtain ⟨g113, hf⟩ := gif hf
                                                            obtain ⟨r1233, hr1233, hf⟩ := obE hf
                                                            refine y_V1 X cv_RL_138 dL_law_1233 g113 (c_M_test d (Nat.le_trans (by decide) hd) l2 r1229.2 r1233 hr1233) (as := []) rfl rfl (Nat.le_of_ble_eq_true rfl) hz ?_
                                                            refine z_icmp_eq X dL_law_1236 rfl (fun hc1236 => ?_) (fun hc1236 => ?_)
                                                            · have hf := ift hc1236 hf
                                                              exact (z_Lw_j1356 X hd sc L hS hz l0 l1 l2 l3 r1233.2 _ hf E hx0 hk)
                                                            · have hf := iff' hc1236 hf
                                                              cases hf
                                                          · have hf := iff' hc33_27 hf
                                                            by_cases hc33_28 : i_and (sc l3) 63 = 28
                                                            · have hf := ift hc33_28 hf
                                                              refine z_tsIn X dL_law_33 (by omega) (by omega) (by rw [hc33_28]; rfl) rfl ?_
                                                              refine z_aload_n X dL_law_1241 1 rfl ?_
                                                              obtain ⟨g114, hf⟩ := gif hf
                                                              obtain ⟨r1242, hr1242, hf⟩ := obE hf
                                                              refine y_V1 X cv_RL_139 dL_law_1242 g114 (c_X_mends d (Nat.le_trans (by decide) hd) l1 h r1242 hr1242) (as := []) rfl rfl (Nat.le_of_ble_eq_true rfl) hz ?_
                                                              refine z_aload_n X dL_law_1245 2 rfl ?_
                                                              obtain ⟨g115, hf⟩ := gif hf
                                                              obtain ⟨r1246, hr1246, hf⟩ := obE hf
                                                              refine y_V1 X cv_RL_142 dL_law_1246 g115 (c_M_mends d (Nat.le_trans (by decide) hd) l2 r1242.2 r1246 hr1246) (as := []) rfl rfl (Nat.le_of_ble_eq_true rfl) hz ?_
                                                              refine z_icmp_eq X dL_law_1249 rfl (fun hc1249 => ?_) (fun hc1249 => ?_)
                                                              · have hf := ift hc1249 hf
                                                                exact (z_Lw_j1356 X hd sc L hS hz l0 l1 l2 l3 r1246.2 _ hf E hx0 hk)
                                                              · have hf := iff' hc1249 hf
                                                                cases hf
                                                            · have hf := iff' hc33_28 hf
                                                              by_cases hc33_29 : i_and (sc l3) 63 = 29
                                                              · have hf := ift hc33_29 hf
                                                                refine z_tsIn X dL_law_33 (by omega) (by omega) (by rw [hc33_29]; rfl) rfl ?_
                                                                refine z_aload_n X dL_law_1254 1 rfl ?_
                                                                refine z_aload_n X dL_law_1255 0 rfl ?_
                                                                refine z_iload_n X dL_law_1256 3 rfl ?_
                                                                refine z_iconst X dL_law_1257 kc_1 ?_
                                                                refine z_iadd X dL_law_1258 ?_
                                                                obtain ⟨g116, hf⟩ := gif hf
                                                                refine z_sld X hS g1 dL_law_1259 g116.1 g116.2 ?_
                                                                obtain ⟨g117, hf⟩ := gif hf
                                                                obtain ⟨r1260, hr1260, hf⟩ := obE hf
                                                                refine y_V1 X cv_RL_143 dL_law_1260 g117 (c_X_mend d (Nat.le_trans (by decide) hd) l1 (sc (w32 (l3 + 1))) h r1260 hr1260) (as := [(0, sc (w32 (l3 + 1)))]) rfl rfl (Nat.le_of_ble_eq_true rfl) hz ?_
                                                                refine z_aload_n X dL_law_1263 2 rfl ?_
                                                                refine z_aload_n X dL_law_1264 0 rfl ?_
                                                                refine z_iload_n X dL_law_1265 3 rfl ?_
                                                                refine z_iconst X dL_law_1266 kc_1 ?_
                                                                refine z_iadd X dL_law_1267 ?_
                                                                refine z_sld X hS g1 dL_law_1268 g116.1 g116.2 ?_
                                                                obtain ⟨g118, hf⟩ := gif hf
                                                                obtain ⟨r1269, hr1269, hf⟩ := obE hf
                                                                refine y_V1 X cv_RL_146 dL_law_1269 g118 (c_M_mend d (Nat.le_trans (by decide) hd) l2 (sc (w32 (l3 + 1))) r1260.2 r1269 hr1269) (as := [(0, sc (w32 (l3 + 1)))]) rfl rfl (Nat.le_of_ble_eq_true rfl) hz ?_
                                                                refine z_icmp_eq X dL_law_1272 rfl (fun hc1272 => ?_) (fun hc1272 => ?_)
                                                                · have hf := ift hc1272 hf
                                                                  exact (z_Lw_j1356 X hd sc L hS hz l0 l1 l2 l3 r1269.2 _ hf E hx0 hk)
                                                                · have hf := iff' hc1272 hf
                                                                  cases hf
                                                              · have hf := iff' hc33_29 hf
                                                                by_cases hc33_30 : i_and (sc l3) 63 = 30
                                                                · have hf := ift hc33_30 hf
                                                                  refine z_tsIn X dL_law_33 (by omega) (by omega) (by rw [hc33_30]; rfl) rfl ?_
                                                                  refine z_aload_n X dL_law_1277 1 rfl ?_
                                                                  refine z_aload_n X dL_law_1278 0 rfl ?_
                                                                  refine z_iload_n X dL_law_1279 3 rfl ?_
                                                                  refine z_iconst X dL_law_1280 kc_1 ?_
                                                                  refine z_iadd X dL_law_1281 ?_
                                                                  obtain ⟨g119, hf⟩ := gif hf
                                                                  refine z_sld X hS g1 dL_law_1282 g119.1 g119.2 ?_
                                                                  obtain ⟨g120, hf⟩ := gif hf
                                                                  obtain ⟨r1283, hr1283, hf⟩ := obE hf
                                                                  refine y_V1 X cv_RL_147 dL_law_1283 g120 (c_X_sentences d (Nat.le_trans (by decide) hd) l1 (sc (w32 (l3 + 1))) h r1283 hr1283) (as := [(0, sc (w32 (l3 + 1)))]) rfl rfl (Nat.le_of_ble_eq_true rfl) hz ?_
                                                                  refine z_aload_n X dL_law_1286 2 rfl ?_
                                                                  refine z_aload_n X dL_law_1287 0 rfl ?_
                                                                  refine z_iload_n X dL_law_1288 3 rfl ?_
                                                                  refine z_iconst X dL_law_1289 kc_1 ?_
                                                                  refine z_iadd X dL_law_1290 ?_
                                                                  refine z_sld X hS g1 dL_law_1291 g119.1 g119.2 ?_
                                                                  obtain ⟨g121, hf⟩ := gif hf
                                                                  obtain ⟨r1292, hr1292, hf⟩ := obE hf
                                                                  refine y_V1 X cv_RL_150 dL_law_1292 g121 (c_M_sentences d (Nat.le_trans (by decide) hd) l2 (sc (w32 (l3 + 1))) r1283.2 r1292 hr1292) (as := [(0, sc (w32 (l3 + 1)))]) rfl rfl (Nat.le_of_ble_eq_true rfl) hz ?_
                                                                  refine z_icmp_eq X dL_law_1295 rfl (fun hc1295 => ?_) (fun hc1295 => ?_)
                                                                  · have hf := ift hc1295 hf
                                                                    exact (z_Lw_j1356 X hd sc L hS hz l0 l1 l2 l3 r1292.2 _ hf E hx0 hk)
                                                                  · have hf := iff' hc1295 hf
                                                                    cases hf
                                                                · have hf := iff' hc33_30 hf
                                                                  by_cases hc33_31 : i_and (sc l3) 63 = 31
                                                                  · have hf := ift hc33_31 hf
                                                                    refine z_tsIn X dL_law_33 (by omega) (by omega) (by rw [hc33_31]; rfl) rfl ?_
                                                                    refine z_aload_n X dL_law_1300 1 rfl ?_
                                                                    refine z_aload_n X dL_law_1301 0 rfl ?_
                                                                    refine z_iload_n X dL_law_1302 3 rfl ?_
                                                                    refine z_iconst X dL_law_1303 kc_1 ?_
                                                                    refine z_iadd X dL_law_1304 ?_
                                                                    obtain ⟨g122, hf⟩ := gif hf
                                                                    refine z_sld X hS g1 dL_law_1305 g122.1 g122.2 ?_
                                                                    refine z_aload_n X dL_law_1306 0 rfl ?_
                                                                    refine z_iload_n X dL_law_1307 3 rfl ?_
                                                                    refine z_iconst X dL_law_1308 kc_2 ?_
                                                                    refine z_iadd X dL_law_1309 ?_
                                                                    obtain ⟨g123, hf⟩ := gif hf
                                                                    refine z_sld X hS g1 dL_law_1310 g123.1 g123.2 ?_
                                                                    obtain ⟨g124, hf⟩ := gif hf
                                                                    obtain ⟨r1311, hr1311, hf⟩ := obE hf
                                                                    refine y_V1 X cv_RL_151 dL_law_1311 g124 (c_X_sentence d (Nat.le_trans (by decide) hd) l1 (sc (w32 (l3 + 1))) (sc (w32 (l3 + 2))) h r1311 hr1311) (as := [(0, sc (w32 (l3 + 1))), (0, sc (w32 (l3 + 2)))]) rfl rfl (Nat.le_of_ble_eq_true rfl) hz ?_
                                                                    refine z_aload_n X dL_law_1314 2 rfl ?_
                                                                    refine z_aload_n X dL_law_1315 0 rfl ?_
                                                                    refine z_iload_n X dL_law_1316 3 rfl ?_
                                                                    refine z_iconst X dL_law_1317 kc_1 ?_
                                                                    refine z_iadd X dL_law_1318 ?_
                                                                    refine z_sld X hS g1 dL_law_1319 g122.1 g122.2 ?_
                                                                    refine z_aload_n X dL_law_1320 0 rfl ?_
                                                                    refine z_iload_n X dL_law_1321 3 rfl ?_
                                                                    refine z_iconst X dL_law_1322 kc_2 ?_
                                                                    refine z_iadd X dL_law_1323 ?_
                                                                    refine z_sld X hS g1 dL_law_1324 g123.1 g123.2 ?_
                                                                    obtain ⟨g125, hf⟩ := gif hf
                                                                    obtain ⟨r1325, hr1325, hf⟩ := obE hf
                                                                    refine y_V1 X cv_RL_154 dL_law_1325 g125 (c_M_sentence d (Nat.le_trans (by decide) hd) l2 (sc (w32 (l3 + 1))) (sc (w32 (l3 + 2))) r1311.2 r1325 hr1325) (as := [(0, sc (w32 (l3 + 1))), (0, sc (w32 (l3 + 2)))]) rfl rfl (Nat.le_of_ble_eq_true rfl) hz ?_
                                                                    refine z_icmp_eq X dL_law_1328 rfl (fun hc1328 => ?_) (fun hc1328 => ?_)
                                                                    · have hf := ift hc1328 hf
                                                                      exact (z_Lw_j1356 X hd sc L hS hz l0 l1 l2 l3 r1325.2 _ hf E hx0 hk)
                                                                    · have hf := iff' hc1328 hf
                                                                      cases hf
                                                                  · have hf := iff' hc33_31 hf
                                                                    by_cases hc33_32 : i_and (sc l3) 63 = 32
                                                                    · have hf := ift hc33_32 hf
                                                                      refine z_tsIn X dL_law_33 (by omega) (by omega) (by rw [hc33_32]; rfl) rfl ?_
                                                                      refine z_aload_n X dL_law_1333 1 rfl ?_
                                                                      refine z_aload_n X dL_law_1334 0 rfl ?_
                                                                      refine z_iload_n X dL_law_1335 3 rfl ?_
                                                                      refine z_iconst X dL_law_1336 kc_1 ?_
                                                                      refine z_iadd X dL_law_1337 ?_
                                                                      obtain ⟨g126, hf⟩ := gif hf
                                                                      refine z_sld X hS g1 dL_law_1338 g126.1 g126.2 ?_
                                                                      obtain ⟨g127, hf⟩ := gif hf
                                                                      obtain ⟨r1339, hr1339, hf⟩ := obE hf
                                                                      refine y_V1 X cv_RL_155 dL_law_1339 g127 (c_X_used d (Nat.le_trans (by decide) hd) l1 (sc (w32 (l3 + 1))) h r1339 hr1339) (as := [(0, sc (w32 (l3 + 1)))]) rfl rfl (Nat.le_of_ble_eq_true rfl) hz ?_
                                                                      refine z_aload_n X dL_law_1342 2 rfl ?_
                                                                      refine z_aload_n X dL_law_1343 0 rfl ?_
                                                                      refine z_iload_n X dL_law_1344 3 rfl ?_
                                                                      refine z_iconst X dL_law_1345 kc_1 ?_
                                                                      refine z_iadd X dL_law_1346 ?_
                                                                      refine z_sld X hS g1 dL_law_1347 g126.1 g126.2 ?_
                                                                      obtain ⟨g128, hf⟩ := gif hf
                                                                      obtain ⟨r1348, hr1348, hf⟩ := obE hf
                                                                      refine y_V1 X cv_RL_158 dL_law_1348 g128 (c_M_used d (Nat.le_trans (by decide) hd) l2 (sc (w32 (l3 + 1))) r1339.2 r1348 hr1348) (as := [(0, sc (w32 (l3 + 1)))]) rfl rfl (Nat.le_of_ble_eq_true rfl) hz ?_
                                                                      refine z_icmp_eq X dL_law_1351 rfl (fun hc1351 => ?_) (fun hc1351 => ?_)
                                                                      · have hf := ift hc1351 hf
                                                                        exact (z_Lw_j1356 X hd sc L hS hz l0 l1 l2 l3 r1348.2 _ hf E hx0 hk)
                                                                      · have hf := iff' hc1351 hf
                                                                        cases hf
                                                                    · have hf := iff' hc33_32 hf
                                                                      refine z_tsOut X dL_law_33 (by omega) rfl ?_
                                                                      exact (z_Lw_j1356 X hd sc L hS hz l0 l1 l2 l3 h _ hf E hx0 hk)
