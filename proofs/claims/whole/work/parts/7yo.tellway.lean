/-! tellWay: both -/
def ts3 (w b s : Int) (f : Hp) : Option ((Int × Hp) ⊕ (Hp)) := if kK (f w 6) = 21 ∧ (0 : Int) ≤ s ∧ s < kL (f w 6) then ob (By_addNumber b (f (f w 6) s) f) (fun r53 => Wy_tellSteps_j56 w b s r53) else none
def ts2 (w b s : Int) (f : Hp) : Option ((Int × Hp) ⊕ (Hp)) := if kK (f w 5) = 21 ∧ (0 : Int) ≤ s ∧ s < kL (f w 5) then ob (By_addNumber b (f (f w 5) s) f) (fun r37 => ob (By_add b 32 r37) (fun r43 => ts3 w b s r43)) else none
def ts1 (w b s : Int) (f : Hp) : Option ((Int × Hp) ⊕ (Hp)) := if s ≤ 0 then Wy_tellSteps_j56 w b s f else ob (By_add b 32 f) (fun r27 => ts2 w b s r27)
theorem tellSteps_eq (w b s : Int) (h : Hp) : Wy_tellSteps_L2 w b s h = if kK w = 8 then if h w 1 ≤ s then some (.inr h) else if kK (h w 4) = 21 ∧ (0 : Int) ≤ s ∧ s < kL (h w 4) then if kK b = 0 then ob (By_addNumber b (h (h w 4) s) h) (fun r17 => ts1 w b s r17) else none else none else none := rfl
def tw3 (d : Nat) (s : Int) (f : Hp) : Option ((Int × Hp) ⊕ (Hp)) := if kK (f 121 51) = 21 ∧ (0 : Int) ≤ s ∧ s < kL (f 121 51) then ob (M_tellsNumber 121 (f (f 121 51) s) f) (fun r76 => M_tellWay_j79 d 121 s r76) else none
def tw2 (d : Nat) (s : Int) (f : Hp) : Option ((Int × Hp) ⊕ (Hp)) := if kK (f 121 50) = 21 ∧ (0 : Int) ≤ s ∧ s < kL (f 121 50) then ob (M_tellsNumber 121 (f (f 121 50) s) f) (fun r59 => ob (M_puts 121 32 r59) (fun r65 => tw3 d s r65)) else none
def tw1 (d : Nat) (s : Int) (f : Hp) : Option ((Int × Hp) ⊕ (Hp)) := if s ≤ 0 then M_tellWay_j79 d 121 s f else ob (M_puts 121 32 f) (fun r48 => tw2 d s r48)
theorem tellWayL_eq (d : Nat) (s : Int) (h : Hp) : M_tellWay_L20 d 121 s h = if kK 121 = 11 then if h 121 48 ≤ s then some (.inr h) else if kK (h 121 49) = 21 ∧ (0 : Int) ≤ s ∧ s < kL (h 121 49) then ob (M_tellsNumber 121 (h (h 121 49) s) h) (fun r37 => tw1 d s r37) else none else none := rfl
section
variable {h g : Hp} {st : St}
/-- the numbers of the steps are small -/
def SmS (st : St) : Prop := (1 ≤ st.length ∧ st.length ≤ 48) ∧ ∀ s : Int, 0 ≤ s → s < (st.length : Int) → (0 ≤ (sEnt st s).1 ∧ (sEnt st s).1 < 100) ∧ (1 ≤ s → (0 ≤ (sEnt st s).2.1 ∧ (sEnt st s).2.1 < 100) ∧ (0 ≤ (sEnt st s).2.2 ∧ (sEnt st s).2.2 < 100))
theorem tellSteps_ok (Y : WyS h 59) (T : XTb h 59 st) (Sm : SmS st) (e3 : h 3 0 = 4) (B : ByT h 3 4 2048 []) : ∃ h', Wy_tellSteps 59 3 h = some h' ∧ ByT h' 3 4 2048 (twN st st.length) ∧ T4 h h' := by
  obtain ⟨⟨l0, l1⟩, sm⟩ := Sm
  obtain ⟨k0, k1, k2, k3, -⟩ := WyO_k (w := 59) (Or.inl rfl)
  have q3 : kK 3 = 0 := by decide
  have q4 : kK 4 = 20 := by decide
  have ql : kL 4 = ((2048 : Nat) : Int) := by decide
  obtain ⟨r, e, p1, p2⟩ := loop_ok (body := fun q => Wy_tellSteps_L2 59 3 q.1 q.2) (fun q => 0 ≤ q.1 ∧ q.1 ≤ (st.length : Int) ∧ ByT q.2 3 4 2048 (twN st q.1.toNat) ∧ T4 h q.2) (fun q => ((st.length : Int) - q.1).toNat) (fun r => ByT r 3 4 2048 (twN st st.length) ∧ T4 h r) (by
    rintro ⟨s, g⟩ ⟨s0, s1, bt, fr⟩
    simp only at s0 s1 bt fr
    show (∃ s', Wy_tellSteps_L2 59 3 s g = _ ∧ _) ∨ (∃ r, Wy_tellSteps_L2 59 3 s g = _ ∧ _)
    have c59 : ∀ g', T4 h g' → (∀ k, g' 59 k = h 59 k) := fun g' F k => F 59 k (Or.inl (by decide)) (by decide)
    have e1 : g 59 1 = (st.length : Int) := by rw [c59 g fr]; exact T.1
    rw [tellSteps_eq, if_pos k0, e1]
    by_cases hs : (st.length : Int) ≤ s
    · right
      rw [if_pos hs]
      refine ⟨g, rfl, ?_, fr⟩
      rw [show s.toNat = st.length by omega] at bt
      exact bt
    · left
      have tb := T.2.1 s s0 (by omega)
      have sms := sm s s0 (by omega)
      have e4 : g 59 4 = 59 + 1 := by rw [c59 g fr]; exact Y.1
      have f1 : g (59 + 1) s = (sEnt st s).1 := by rw [fr _ _ (Or.inl (by decide)) (by decide)]; exact tb.1
      obtain ⟨g1, x1, t1, r1⟩ := addNumber_ok (v := (sEnt st s).1) q3 q4 ql (by decide) (by rw [fr 3 0 (Or.inr (by decide)) (by decide)]; exact e3) (by decide) bt sms.1.1 sms.1.2
      have F1 : T4 h g1 := fun c i a b => by rw [r1 c i a b, fr c i a b]
      have fin : ∀ (g' : Hp) (L : List Int), T4 h g' → ByT g' 3 4 2048 L → ∃ g'', Wy_tellSteps_j56 59 3 s g' = some (.inl (s + 1, g'')) ∧ ByT g'' 3 4 2048 (L ++ [59]) ∧ T4 h g'' := by
        intro g' L F' t'
        obtain ⟨g2, x2, t2, r2⟩ := By_add_ok (v := 59) q3 q4 ql (by decide) (by rw [F' 3 0 (Or.inr (by decide)) (by decide)]; exact e3) (by decide) t' (by decide) (by decide)
        unfold Wy_tellSteps_j56
        rw [if_pos q3, x2, ob_some, show w32 (s + 1) = s + 1 by unfold w32; omega]
        exact ⟨g2, rfl, t2, fun c i a b => by rw [r2 c i a b, F' c i a b]⟩
      have tx : twN st (s + 1).toNat = twN st s.toNat ++ sxT st s := by
        rw [show (s + 1).toNat = s.toNat + 1 by omega]
        show twN st s.toNat ++ sxT st ((s.toNat : Nat) : Int) = _
        rw [show ((s.toNat : Nat) : Int) = s by omega]
      rw [if_neg hs, e4, if_pos ⟨k1.1, s0, by rw [k1.2]; omega⟩, if_pos q3, f1, x1, ob_some]
      unfold ts1
      by_cases h0 : s ≤ 0
      · rw [if_pos h0]
        obtain ⟨g2, x2, t2, F2⟩ := fin g1 _ F1 t1
        refine ⟨_, x2, ⟨by simp only; omega, by simp only; omega, ?_, F2⟩, by simp only; omega⟩
        simp only
        rw [tx]
        unfold sxT
        rw [if_pos h0, List.append_nil]
        rw [List.append_assoc] at t2
        exact t2
      · have s2 := sms.2 (by omega)
        rw [if_neg h0]
        obtain ⟨g2, x2, t2, r2⟩ := By_add_ok (v := 32) q3 q4 ql (by decide) (by rw [F1 3 0 (Or.inr (by decide)) (by decide)]; exact e3) (by decide) t1 (by decide) (by decide)
        have F2 : T4 h g2 := fun c i a b => by rw [r2 c i a b, F1 c i a b]
        have e5 : g2 59 5 = 59 + 2 := by rw [c59 g2 F2]; exact Y.2.1
        have f2 : g2 (59 + 2) s = (sEnt st s).2.1 := by rw [F2 _ _ (Or.inl (by decide)) (by decide)]; exact tb.2.1
        obtain ⟨g3, x3, t3, r3⟩ := addNumber_ok (v := (sEnt st s).2.1) q3 q4 ql (by decide) (by rw [F2 3 0 (Or.inr (by decide)) (by decide)]; exact e3) (by decide) t2 s2.1.1 s2.1.2
        have F3 : T4 h g3 := fun c i a b => by rw [r3 c i a b, F2 c i a b]
        obtain ⟨g4, x4, t4, r4⟩ := By_add_ok (v := 32) q3 q4 ql (by decide) (by rw [F3 3 0 (Or.inr (by decide)) (by decide)]; exact e3) (by decide) t3 (by decide) (by decide)
        have F4 : T4 h g4 := fun c i a b => by rw [r4 c i a b, F3 c i a b]
        have e6 : g4 59 6 = 59 + 3 := by rw [c59 g4 F4]; exact Y.2.2.1
        have f3 : g4 (59 + 3) s = (sEnt st s).2.2 := by rw [F4 _ _ (Or.inl (by decide)) (by decide)]; exact tb.2.2
        obtain ⟨g5, x5, t5, r5⟩ := addNumber_ok (v := (sEnt st s).2.2) q3 q4 ql (by decide) (by rw [F4 3 0 (Or.inr (by decide)) (by decide)]; exact e3) (by decide) t4 s2.2.1 s2.2.2
        have F5 : T4 h g5 := fun c i a b => by rw [r5 c i a b, F4 c i a b]
        obtain ⟨g6, x6, t6, F6⟩ := fin g5 _ F5 t5
        rw [x2, ob_some]
        unfold ts2
        rw [e5, if_pos ⟨k2.1, s0, by rw [k2.2]; omega⟩, f2, x3, ob_some, x4, ob_some]
        unfold ts3
        rw [e6, if_pos ⟨k3.1, s0, by rw [k3.2]; omega⟩, f3, x5, ob_some]
        refine ⟨_, x6, ⟨by simp only; omega, by simp only; omega, ?_, F6⟩, by simp only; omega⟩
        simp only
        rw [tx]
        unfold sxT
        rw [if_neg h0]
        simp only [List.append_assoc, List.cons_append, List.nil_append] at t6 ⊢
        exact t6) LN (0, h) ⟨Int.le_refl _, by simp only; omega, B, fun _ _ _ _ => rfl⟩ (by unfold LN; simp only; omega)
  unfold Wy_tellSteps
  rw [e, ob_some]
  exact ⟨r, rfl, p1, p2⟩
theorem tellWay_loop (S : SShp g) (T : RTab g st) (Sm : SmS st) (B : TeM g []) (d : Nat) : ∃ g', loopN (fun q => M_tellWay_L20 d 121 q.1 q.2) LN (0, g) = some g' ∧ TeM g' (twN st st.length) ∧ TF g g' := by
  obtain ⟨⟨l0, l1⟩, sm⟩ := Sm
  have kl : kL 155 = 8000 := kL_155
  obtain ⟨r, e, p1, p2⟩ := loop_ok (body := fun q => M_tellWay_L20 d 121 q.1 q.2) (fun q => 0 ≤ q.1 ∧ q.1 ≤ (st.length : Int) ∧ TeM q.2 (twN st q.1.toNat) ∧ TF g q.2) (fun q => ((st.length : Int) - q.1).toNat) (fun r => TeM r (twN st st.length) ∧ TF g r) (by
    rintro ⟨s, f⟩ ⟨s0, s1, bt, fr⟩
    simp only at s0 s1 bt fr
    show (∃ s', M_tellWay_L20 d 121 s f = _ ∧ _) ∨ (∃ r, M_tellWay_L20 d 121 s f = _ ∧ _)
    have Tf := RTab_tf T fr
    have Sf := SShp_tf S fr
    have bl := twN_len st s.toNat
    rw [tellWayL_eq, if_pos kK_121, Tf.1]
    by_cases hs : (st.length : Int) ≤ s
    · right
      rw [if_pos hs]
      refine ⟨f, rfl, ?_, fr⟩
      rw [show s.toNat = st.length by omega] at bt
      exact bt
    · left
      have tb := Tf.2 s s0 (by omega)
      have sms := sm s s0 (by omega)
      have d1 := dgt_len (sEnt st s).1
      have d2 := dgt_len (sEnt st s).2.1
      have d3 := dgt_len (sEnt st s).2.2
      obtain ⟨g1, x1, t1, F1⟩ := tellsNumber_ok (v := (sEnt st s).1) bt (by omega) sms.1.1 sms.1.2
      have fin : ∀ (g' : Hp) (L : List Int), (L.length : Int) < kL 155 → TF g g' → TeM g' L → ∃ g'', M_tellWay_j79 d 121 s g' = some (.inl (s + 1, g'')) ∧ TeM g'' (L ++ [59]) ∧ TF g g'' := by
        intro g' L hL F' t'
        obtain ⟨g2, x2, t2, r2⟩ := M_puts_ok (v := 59) t' hL (by decide) (by decide)
        unfold M_tellWay_j79
        rw [if_pos kK_121, x2, ob_some, show w32 (s + 1) = s + 1 by unfold w32; omega]
        exact ⟨g2, rfl, t2, F'.tr r2⟩
      have tx : twN st (s + 1).toNat = twN st s.toNat ++ sxT st s := by
        rw [show (s + 1).toNat = s.toNat + 1 by omega]
        show twN st s.toNat ++ sxT st ((s.toNat : Nat) : Int) = _
        rw [show ((s.toNat : Nat) : Int) = s by omega]
      rw [if_neg hs, ss_at Sf (show ((49 : Int), (148 : Int)) ∈ ssL by decide), if_pos ⟨kK_148, s0, by rw [kL_148]; omega⟩, tb.1, x1, ob_some]
      unfold tw1
      by_cases h0 : s ≤ 0
      · rw [if_pos h0]
        obtain ⟨g2, x2, t2, F2⟩ := fin g1 _ (by rw [List.length_append]; omega) (fr.tr F1) t1
        refine ⟨_, x2, ⟨by simp only; omega, by simp only; omega, ?_, F2⟩, by simp only; omega⟩
        simp only
        rw [tx]
        unfold sxT
        rw [if_pos h0, List.append_nil]
        rw [List.append_assoc] at t2
        exact t2
      · have s2 := sms.2 (by omega)
        rw [if_neg h0]
        obtain ⟨g2, x2, t2, r2⟩ := M_puts_ok (v := 32) t1 (by rw [List.length_append]; omega) (by decide) (by decide)
        have F2 := (fr.tr F1).tr r2
        have tb2 := (RTab_tf T F2).2 s s0 (by omega)
        obtain ⟨g3, x3, t3, r3⟩ := tellsNumber_ok (v := (sEnt st s).2.1) t2 (by simp only [List.length_append, List.length_cons, List.length_nil]; omega) s2.1.1 s2.1.2
        have F3 := F2.tr r3
        obtain ⟨g4, x4, t4, r4⟩ := M_puts_ok (v := 32) t3 (by simp only [List.length_append, List.length_cons, List.length_nil]; omega) (by decide) (by decide)
        have F4 := F3.tr r4
        have tb4 := (RTab_tf T F4).2 s s0 (by omega)
        obtain ⟨g5, x5, t5, r5⟩ := tellsNumber_ok (v := (sEnt st s).2.2) t4 (by simp only [List.length_append, List.length_cons, List.length_nil]; omega) s2.2.1 s2.2.2
        obtain ⟨g6, x6, t6, F6⟩ := fin g5 _ (by simp only [List.length_append, List.length_cons, List.length_nil]; omega) (F4.tr r5) t5
        rw [x2, ob_some]
        unfold tw2
        rw [ss_at (SShp_tf S F2) (show ((50 : Int), (149 : Int)) ∈ ssL by decide), if_pos (show kK 149 = 21 ∧ (0 : Int) ≤ s ∧ s < kL 149 from ⟨by decide, s0, by rw [show kL 149 = 128 by decide]; omega⟩), tb2.2.1, x3, ob_some, x4, ob_some]
        unfold tw3
        rw [ss_at (SShp_tf S F4) (show ((51 : Int), (150 : Int)) ∈ ssL by decide), if_pos (show kK 150 = 21 ∧ (0 : Int) ≤ s ∧ s < kL 150 from ⟨by decide, s0, by rw [show kL 150 = 128 by decide]; omega⟩), tb4.2.2.1, x5, ob_some]
        refine ⟨_, x6, ⟨by simp only; omega, by simp only; omega, ?_, F6⟩, by simp only; omega⟩
        simp only
        rw [tx]
        unfold sxT
        rw [if_neg h0]
        simp only [List.append_assoc, List.cons_append, List.nil_append] at t6 ⊢
        exact t6) LN (0, g) ⟨Int.le_refl _, by simp only; omega, B, TF.rf⟩ (by unfold LN; simp only; omega)
  exact ⟨r, e, p1, p2⟩
theorem twN_in (Sm : SmS st) : ∀ k : Nat, k ≤ st.length → ∀ v ∈ twN st k, 0 ≤ v ∧ v < 128
  | 0, _, v, hv => absurd hv (List.not_mem_nil)
  | k + 1, hk, v, hv => by
    have hv' : v ∈ twN st k ++ sxT st k := hv
    have sms := Sm.2 (k : Int) (by omega) (by omega)
    rcases List.mem_append.mp hv' with z | z
    · exact twN_in Sm k (by omega) v z
    · unfold sxT at z
      rcases List.mem_append.mp z with z | z
      · rcases List.mem_append.mp z with z | z
        · exact dgt_in sms.1.1 sms.1.2 v z
        · by_cases h0 : (k : Int) ≤ 0
          · rw [if_pos h0] at z; exact absurd z (List.not_mem_nil)
          · rw [if_neg h0] at z
            have s2 := sms.2 (by omega)
            simp only [List.mem_append, List.mem_cons] at z
            rcases z with (z | z) | z | z
            · omega
            · exact dgt_in s2.1.1 s2.1.2 v z
            · omega
            · exact dgt_in s2.2.1 s2.2.2 v z
      · have : v = 59 := by simpa using z
        omega
end
section
variable {h h' g g' : Hp} {P o8 n : Int} {G : Gm} {row : Int → Int}
theorem tellWay_ok (A : PreW h g P G o8 n row) (e56 : g 121 56 = 155) {d : Nat} (hd : 1954 ≤ d) (k : Int) : ∃ v h' g', X_tellWay 0 k h = some (v, h') ∧ M_tellWay d 121 k g = some (v, g') ∧ ∃ h1 g1, XA h h1 P G o8 n row ∧ LyF g g1 ∧ T4 h1 h' ∧ TF8 g1 g' ∧ ((h' = h1 ∧ g' = g1) ∨ ∃ wl wd, TolX h' wl wd ∧ TolM g' wl wd) := by
  obtain ⟨v, h', g', x, y, X, L, w, B', Bg', S'⟩ := found_both A (d := d - 1) (by omega) k
  have I := bx_G B'
  have W := I.1
  have nt := wf_nt W
  rw [xq_tellWay_eq, mq_tellWay_eq, if_pos (by decide), if_pos kK_121, x, y, ob_some, ob_some]
  show ∃ v' h'' g'', xq_tellWay v h' = _ ∧ mq_tellWay d v g' = _ ∧ _
  rw [xq_tellWay_eq2, mq_tellWay_eq2]
  rcases w with w | ⟨w, t, dv, ⟨t0, t1, hs, gu⟩, sh, db, X', M'⟩
  · rw [if_neg (by omega), if_neg (by omega)]
    exact ⟨v, h', g', rfl, rfl, h', g', X, L, fun _ _ _ _ => rfl, fun _ _ _ _ => rfl, Or.inl ⟨rfl, rfl⟩⟩
  · subst w
    have S := bx_sx B'
    obtain ⟨at', -, sl, s0⟩ := stW_At I t0 t1 sh
    have Sm : SmS (stW G t dv) := by
      refine ⟨⟨by omega, by omega⟩, fun s a b => ⟨?_, fun c => ⟨?_, ?_⟩⟩⟩
      · have := stW_tr I t0 t1 sh a b; omega
      · have := stW_in (G := G) c b; omega
      · have := stW_at W t0 t1 sh c b; omega
    generalize hf : hput h' 3 1 0 = f
    have f4 : T4 h' f := by
      intro c s a b
      rw [← hf]
      rcases a with a | a
      · exact hput_ne1 a
      · exact hput_ne2 a
    have Bf := BX_t4 B' f4
    have Sf := bx_sx Bf
    have Tf : XTb f 59 (stW G t dv) := by
      have em : ∀ c s, 59 ≤ c → f c s = h' c s := fun c s hc => f4 c s (Or.inl (by omega)) (by omega)
      have := X'.1
      unfold XTb at this ⊢
      simp only [em 59 _ (by decide), em (59 + 1) _ (by decide), em (59 + 2) _ (by decide), em (59 + 3) _ (by decide), em (59 + 5) _ (by decide)]
      exact this
    obtain ⟨h2, x2, t2, q2⟩ := tellSteps_ok (h := f) ⟨sx_at Sf (by decide), sx_at Sf (by decide), sx_at Sf (by decide), sx_at Sf (by decide), sx_at Sf (by decide)⟩ Tf Sm (sx_at Sf (by decide)) ⟨by rw [← hf, hput_eq]; rfl, fun i v hi => absurd hi (by simp)⟩
    have S2 := bx_sx (BX_t4 Bf q2)
    generalize hm : hput g' 121 57 0 = m
    have m8 : TF g' m := by
      intro c s a b
      rw [← hm]
      rcases a with a | a
      · exact hput_ne1 a
      · exact hput_ne2 a
    obtain ⟨f2, y2, u2, v2⟩ := tellWay_loop (SShp_tf S' m8) (RTab_tf M'.1 m8) Sm ⟨by rw [← hm, hput_eq]; rfl, by rw [m8 121 56 (Or.inr (by decide)) (by decide), L 121 56 (Or.inr (by decide)) (by decide) (by decide)]; exact e56, fun i v hi => absurd hi (by simp)⟩ d
    have tl := twN_len (stW G t dv) (stW G t dv).length
    rw [if_pos (Int.le_refl 0), sx_at S (show (0, 1, 3) ∈ shX by decide), if_pos (show kK 3 = 0 by decide), hf, if_pos rfl, y2, ob_some]
    unfold xtP
    rw [sx_at Sf (show (0, 11, 59) ∈ shX by decide), if_pos kK_59, sx_at Sf (show (0, 1, 3) ∈ shX by decide), x2, ob_some]
    unfold xtK
    rw [sx_at S2 (show (0, 1, 3) ∈ shX by decide), if_pos (show kK 3 = 0 by decide), t2.1, u2.1]
    refine ⟨((twN (stW G t dv) (stW G t dv).length).length : Int), h2, f2, ?_, rfl, h', g', X, L, fun c s a b => by rw [q2 c s a b, f4 c s a b], (m8.tr v2).f8, Or.inr (tol_both (by omega) (twN_in Sm _ (Nat.le_refl _)) t2 u2)⟩
    congr 2
    omega
end
