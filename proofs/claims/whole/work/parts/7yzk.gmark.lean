/-! grammar: what the reference's reading may change; leaves -/
def errG (g : Hp) (c P : Int) : Hp := hput (hput g 121 27 c) 121 28 P
def GFr (N : Int) (g g' : Hp) : Prop := ∀ c s, (c ≠ 121 ∨ (s ≠ 12 ∧ s ≠ 23 ∧ s ≠ 24 ∧ s ≠ 25 ∧ s ≠ 26 ∧ s ≠ 27 ∧ s ≠ 28 ∧ s ≠ 30)) → (c < 123 ∨ 128 < c ∨ s < 40 + N) → g' c s = g c s
def RM (g : Hp) : Gm := fun i n => if 6 ≤ i then 0 else if 3 ≤ i then (if g (123 + i) (40 + n) = -1 then -1 else g (123 + i) (40 + n) - 40) else g (123 + i) (40 + n)
def upT (up : Int) : Int := if up = -1 then -1 else up - 40
def FoM (g : Hp) (fo : Bool) : Prop := (fo = false → g 121 30 = -1) ∧ (fo = true → g 121 30 ≠ -1)
def MPre (g : Hp) (tl : Int) (tp : Int → Int) (b rl p N : Int) (fo : Bool) : Prop := MShp g ∧ HeE g tl tp ∧ TokG g tl tp p ∧ g 121 27 = 0 ∧ g 121 12 = N ∧ g 121 29 = b ∧ (0 ≤ b ∧ b ≤ N ∧ N ≤ 40 ∧ N ≤ b + 12) ∧ (b < N → g 124 (40 + b) = rl) ∧ FoM g fo ∧ 0 ≤ p ∧ p ≤ tl
def MRes (g : Hp) (tl : Int) (tp : Int → Int) (N u : Int) (o : Option (Int × Hp)) : PRs → Prop
  | .inl z => ∃ v g', o = some (v, g') ∧ z.1 ≠ 0 ∧ g' 121 27 = z.1 ∧ g' 121 28 = z.2 ∧ GFr N g g'
  | .inr z => ∃ g', o = some (40 + N, g') ∧ g' 121 27 = 0 ∧ g' 121 12 = N + szT z.1 ∧ TokG g' tl tp z.2.1 ∧ FoM g' z.2.2 ∧ Hd false (RM g') z.1 N u ∧ GFr N g g' ∧ z.2.1 ≤ tl ∧ g' 121 28 = g 121 28
theorem hput_no {f : Hp} {c' s' v c s : Int} (h : c ≠ c' ∨ s ≠ s') : hput f c' s' v c s = f c s := h.elim (fun z => hput_ne1 z) (fun z => hput_ne2 z)
section
variable {g g' g'' : Hp} {tl b rl p N u : Int} {tp : Int → Int} {fo : Bool}
theorem MRes_l {o : Option (Int × Hp)} {c P : Int} (h : ∃ v g', o = some (v, g') ∧ c ≠ 0 ∧ g' 121 27 = c ∧ g' 121 28 = P ∧ GFr N g g') : MRes g tl tp N u o (.inl (c, P)) := h
theorem MRes_r {o : Option (Int × Hp)} {x : Dv} {q : Int} {fx : Bool} (h : ∃ g', o = some (40 + N, g') ∧ g' 121 27 = 0 ∧ g' 121 12 = N + szT x ∧ TokG g' tl tp q ∧ FoM g' fx ∧ Hd false (RM g') x N u ∧ GFr N g g' ∧ q ≤ tl ∧ g' 121 28 = g 121 28) : MRes g tl tp N u o (.inr (x, q, fx)) := h
theorem MRes_l' {o : Option (Int × Hp)} {z : Int × Int} (h : MRes g tl tp N u o (.inl z)) : ∃ v g', o = some (v, g') ∧ z.1 ≠ 0 ∧ g' 121 27 = z.1 ∧ g' 121 28 = z.2 ∧ GFr N g g' := h
theorem MRes_r' {o : Option (Int × Hp)} {x : Dv} {q : Int} {fx : Bool} (h : MRes g tl tp N u o (.inr (x, q, fx))) : ∃ g', o = some (40 + N, g') ∧ g' 121 27 = 0 ∧ g' 121 12 = N + szT x ∧ TokG g' tl tp q ∧ FoM g' fx ∧ Hd false (RM g') x N u ∧ GFr N g g' ∧ q ≤ tl ∧ g' 121 28 = g 121 28 := h
theorem GFr.rf : GFr N g g := fun _ _ _ _ => rfl
theorem GFr.tr (a : GFr N g g') (x : GFr N g' g'') : GFr N g g'' := fun c s h1 h2 => by rw [x c s h1 h2, a c s h1 h2]
theorem GFr.up {M : Int} (h : N ≤ M) (a : GFr M g g') : GFr N g g' := fun c s h1 h2 => a c s h1 (by omega)
theorem GFr.tk (a : TkF g g') : GFr N g g' := fun c s h1 _ => a c s (h1.elim Or.inl (fun z => Or.inr ⟨z.2.1, z.2.2.1, z.2.2.2.1, z.2.2.2.2.1⟩))
theorem GFr.err {c P : Int} : GFr N g (errG g c P) := fun x s h1 _ => by
  unfold errG
  rw [hput_no (by omega), hput_no (by omega)]
theorem GFr.ms (F : GFr N g g') (S : MShp g) : MShp g' := by
  intro q hq
  have : ∀ q ∈ msL, q.1 ≠ 12 ∧ q.1 ≠ 23 ∧ q.1 ≠ 24 ∧ q.1 ≠ 25 ∧ q.1 ≠ 26 ∧ q.1 ≠ 27 ∧ q.1 ≠ 28 ∧ q.1 ≠ 30 := by decide
  rw [F 121 q.1 (Or.inr (this q hq)) (Or.inl (by decide))]
  exact S q hq
theorem GFr.he (F : GFr N g g') (E : HeE g tl tp) : HeE g' tl tp := by
  obtain ⟨⟨a, b, c⟩, d, e, f⟩ := E
  refine ⟨⟨by rw [F 121 22 (Or.inr (by decide)) (Or.inl (by decide))]; exact a, b, c⟩, by rw [F 121 19 (Or.inr (by decide)) (Or.inl (by decide))]; exact d, by rw [F 121 59 (Or.inr (by decide)) (Or.inl (by decide))]; exact e, fun i i0 i1 => ?_⟩
  rw [F 135 i (Or.inl (by decide)) (by omega)]
  exact f i i0 i1
theorem GFr.nw {k l up : Int} : GFr N g (nwM g N k l up) := fun c s h1 h2 => by
  unfold nwM
  rw [hput_no (by omega), hput_no (by omega), hput_no (by omega), hput_no (by omega), hput_no (by omega), hput_no (by omega), hput_no (by omega)]
theorem nw_at {k l up : Int} : (nwM g N k l up) 123 (40 + N) = k ∧ (nwM g N k l up) 124 (40 + N) = l ∧ (nwM g N k l up) 125 (40 + N) = 0 ∧ (nwM g N k l up) 126 (40 + N) = -1 ∧ (nwM g N k l up) 127 (40 + N) = -1 ∧ (nwM g N k l up) 128 (40 + N) = up ∧ (nwM g N k l up) 121 12 = N + 1 := by
  unfold nwM
  refine ⟨?_, ?_, ?_, ?_, ?_, ?_, ?_⟩
  · rw [hput_ne1 (by decide), hput_ne1 (by decide), hput_ne1 (by decide), hput_ne1 (by decide), hput_ne1 (by decide), hput_ne1 (by decide), hput_eq]
  · rw [hput_ne1 (by decide), hput_ne1 (by decide), hput_ne1 (by decide), hput_ne1 (by decide), hput_ne1 (by decide), hput_eq]
  · rw [hput_ne1 (by decide), hput_ne1 (by decide), hput_ne1 (by decide), hput_ne1 (by decide), hput_eq]
  · rw [hput_ne1 (by decide), hput_ne1 (by decide), hput_ne1 (by decide), hput_eq]
  · rw [hput_ne1 (by decide), hput_ne1 (by decide), hput_eq]
  · rw [hput_ne1 (by decide), hput_eq]
  · rw [hput_eq]
theorem nw_121 {k l up s : Int} (hs : s ≠ 12) : (nwM g N k l up) 121 s = g 121 s := by
  unfold nwM
  rw [hput_ne2 hs, hput_ne1 (by decide), hput_ne1 (by decide), hput_ne1 (by decide), hput_ne1 (by decide), hput_ne1 (by decide), hput_ne1 (by decide)]
theorem RM_0 {i : Int} (h0 : 0 ≤ i) (h : i < 3) (n : Int) : RM g i n = g (123 + i) (40 + n) := by
  unfold RM
  rw [if_neg (by omega), if_neg (by omega)]
theorem RM_3 {i : Int} (h0 : 3 ≤ i) (h : i < 6) (n : Int) : RM g i n = upT (g (123 + i) (40 + n)) := by
  unfold RM upT
  rw [if_neg (by omega), if_pos h0]
theorem RM_row {e : Hp} {d : Dv} {k l m a x w : Int} (h0 : e 123 (40 + N) = k) (h1 : e 124 (40 + N) = l) (h2 : e 125 (40 + N) = m) (h3 : upT (e 126 (40 + N)) = a) (h4 : upT (e 127 (40 + N)) = x) (h5 : upT (e 128 (40 + N)) = w) (hl : k ≠ 2 → 0 ≤ l ∧ l < 26) (hm : 0 ≤ m ∧ m ≤ 2) : Rw false (RM e) d N k l m a x w := by
  refine ⟨⟨?_, ?_, ?_, ?_, ?_, ?_⟩, hl, hm, fun z => absurd z (by decide)⟩
  · rw [RM_0 (by decide) (by decide)]; exact h0
  · rw [RM_0 (by decide) (by decide)]; exact h1
  · rw [RM_0 (by decide) (by decide)]; exact h2
  · rw [RM_3 (by decide) (by decide)]; exact h3
  · rw [RM_3 (by decide) (by decide)]; exact h4
  · rw [RM_3 (by decide) (by decide)]; exact h5
theorem RM_lt (F : GFr N g g') {i n : Int} (i0 : 0 ≤ i) (hn : n < N) : RM g' i n = RM g i n := by
  unfold RM
  by_cases h6 : 6 ≤ i
  · rw [if_pos h6, if_pos h6]
  · rw [F (123 + i) (40 + n) (Or.inl (by omega)) (by omega)]
theorem RM_tk (F : TkF g g') {i n : Int} (i0 : 0 ≤ i) : RM g' i n = RM g i n := by
  unfold RM
  by_cases h6 : 6 ≤ i
  · rw [if_pos h6, if_pos h6]
  · rw [F (123 + i) (40 + n) (Or.inl (by omega))]
/-! signs and tokens -/
def sgC (c : Int) : Prop := c = 40 ∨ c = 41 ∨ c = 59 ∨ c = 46 ∨ c = 42 ∨ c = 94 ∨ c = 33 ∨ c = 43
theorem kn_sign {s c : Int} (hc : sgC c) : (knG s = 4 ∧ vlG s = c) ↔ s = c := by
  constructor
  · rintro ⟨a, d⟩
    unfold knG at a
    unfold vlG at d
    by_cases h0 : s = -1
    · rw [if_pos h0] at a; omega
    · rw [if_neg h0] at a
      by_cases h1 : isLb s = true
      · rw [if_pos h1] at a; omega
      · rw [if_neg h1] at a d
        by_cases h2 : isLt s = true
        · rw [if_pos h2] at a; omega
        · rw [if_neg h2] at d; exact d
  · intro z
    subst z
    rcases hc with rfl | rfl | rfl | rfl | rfl | rfl | rfl | rfl <;> decide
theorem kn_lab {s : Int} : knG s = 2 ↔ isLb s = true := by
  unfold knG
  by_cases h0 : s = -1
  · rw [if_pos h0]
    refine ⟨fun z => by omega, fun z => ?_⟩
    rw [h0] at z
    exact absurd z (by decide)
  · rw [if_neg h0]
    by_cases h1 : isLb s = true
    · rw [if_pos h1]; exact ⟨fun _ => h1, fun _ => rfl⟩
    · rw [if_neg h1]
      refine ⟨fun z => ?_, fun z => absurd z h1⟩
      by_cases h2 : isLt s = true
      · rw [if_pos h2] at z; omega
      · rw [if_neg h2] at z
        split at z <;> omega
theorem lb_in {s : Int} (h : isLb s = true) : 65 ≤ s ∧ s ≤ 90 := by unfold isLb at h; simpa using h
theorem lt_in {s : Int} (h : isLt s = true) : 97 ≤ s ∧ s ≤ 122 := by unfold isLt at h; simpa using h
theorem lb_no {s : Int} (h : ¬ isLb s = true) : ¬ (65 ≤ s ∧ s ≤ 90) := by unfold isLb at h; simpa using h
theorem lt_no {s : Int} (h : ¬ isLt s = true) : ¬ (97 ≤ s ∧ s ≤ 122) := by unfold isLt at h; simpa using h
theorem kn_let {s : Int} : knG s = 3 ↔ isLt s = true := by
  unfold knG
  by_cases h0 : s = -1
  · rw [if_pos h0]
    refine ⟨fun z => by omega, fun z => ?_⟩
    rw [h0] at z
    exact absurd z (by decide)
  · rw [if_neg h0]
    by_cases h1 : isLb s = true
    · rw [if_pos h1]
      refine ⟨fun z => by omega, fun z => ?_⟩
      have a := lb_in h1
      have d := lt_in z
      omega
    · rw [if_neg h1]
      by_cases h2 : isLt s = true
      · rw [if_pos h2]; exact ⟨fun _ => h2, fun _ => rfl⟩
      · rw [if_neg h2]
        refine ⟨fun z => ?_, fun z => absurd z h2⟩
        split at z <;> omega
theorem tk_sign (T : TokG g tl tp p) (ok : g 121 27 = 0) {c : Int} (hc : sgC c) : M_isSign 121 c g = some (if tpC tl tp p = c then 1 else 0) := by
  rw [mg_sign]
  have := kn_sign (s := tpC tl tp p) hc
  rw [← T.2.1, ← T.2.2.1] at this
  by_cases z : tpC tl tp p = c
  · rw [if_pos z, if_pos ⟨ok, this.mpr z⟩]
  · rw [if_neg z, if_neg (fun w => z (this.mp w.2))]
theorem tk_bad (bad : g 121 27 ≠ 0) (c : Int) : M_isSign 121 c g = some 0 := by
  rw [mg_sign, if_neg (fun w => bad w.1)]
theorem good_y (ok : g 121 27 = 0) : M_good 121 g = some 1 := by rw [mg_good, if_pos ok]
theorem good_n (bad : g 121 27 ≠ 0) : M_good 121 g = some 0 := by rw [mg_good, if_neg bad]
theorem errs_y (ok : g 121 27 = 0) (c P : Int) : M_errsAt 121 c P g = some (errG g c P) := by rw [mg_errs, if_pos ok]; rfl
theorem errs_n (bad : g 121 27 ≠ 0) (c P : Int) : M_errsAt 121 c P g = some g := by rw [mg_errs, if_neg bad]
theorem errG_27 (c P : Int) : (errG g c P) 121 27 = c := by unfold errG; rw [hput_ne2 (by decide), hput_eq]
theorem errG_28 (c P : Int) : (errG g c P) 121 28 = P := by unfold errG; rw [hput_eq]
theorem adv (E : HeE g tl tp) (T : TokG g tl tp p) (p0 : 0 ≤ p) (hs : tpC tl tp p ≠ -1) : ∃ g', M_advance 121 g = some g' ∧ TkF g g' ∧ TokG g' tl tp (blA tl tp (p + 1)) ∧ p < blA tl tp (p + 1) ∧ blA tl tp (p + 1) ≤ tl := by
  have pt : p < tl := by
    by_cases z : p < tl
    · exact z
    · exact absurd (tpC_out (by omega)) hs
  have t4 := E.1.2.2
  have h23 := T.2.2.2
  rw [if_neg hs] at h23
  obtain ⟨g', e, F, T'⟩ := advance_ok E h23 (by omega) (by omega)
  have bl := blA_le (tl := tl) (tp := tp) (p + 1)
  exact ⟨g', e, F, T', by omega, bl.2.1 (by omega)⟩
theorem takes_y (E : HeE g tl tp) (T : TokG g tl tp p) (ok : g 121 27 = 0) (p0 : 0 ≤ p) {c : Int} (hc : sgC c) (hs : tpC tl tp p = c) : ∃ g', M_takesSign 121 c g = some g' ∧ TkF g g' ∧ TokG g' tl tp (blA tl tp (p + 1)) ∧ p < blA tl tp (p + 1) ∧ blA tl tp (p + 1) ≤ tl := by
  obtain ⟨g', e, F, T', b1, b2⟩ := adv E T p0 (by rcases hc with rfl | rfl | rfl | rfl | rfl | rfl | rfl | rfl <;> omega)
  refine ⟨g', ?_, F, T', b1, b2⟩
  unfold M_takesSign M_takesSign_j17
  rw [if_pos kK_121, tk_sign T ok hc, ob_some, if_pos hs, if_neg (by decide), if_pos kK_121, good_y ok, ob_some, if_neg (by decide), e, ob_some]
theorem takes_n (T : TokG g tl tp p) (ok : g 121 27 = 0) {c : Int} (hc : sgC c) (hs : tpC tl tp p ≠ c) : M_takesSign 121 c g = some (errG g 1 p) := by
  unfold M_takesSign M_takesSign_j17
  rw [if_pos kK_121, tk_sign T ok hc, ob_some, if_neg hs, if_pos rfl, T.1, errs_y ok, ob_some, if_pos kK_121, good_n (by rw [errG_27]; decide), ob_some, if_pos rfl]
theorem takes_b (bad : g 121 27 ≠ 0) (c : Int) : M_takesSign 121 c g = some g := by
  unfold M_takesSign M_takesSign_j17
  rw [if_pos kK_121, tk_bad bad, ob_some, if_pos rfl, errs_n bad, ob_some, if_pos kK_121, good_n bad, ob_some, if_pos rfl]
theorem opens_y (S : MShp g) (e12 : g 121 12 = N) (e29 : g 121 29 = b) (bd : 0 ≤ b ∧ b ≤ N ∧ N ≤ 40 ∧ N ≤ b + 12) (ok : g 121 27 = 0) (r : rmN b N = true) (k l up P : Int) : M_opens 121 k l up P g = some (40 + N, nwM g N k l up) := by
  unfold rmN at r
  have r' : N < 40 ∧ N - b < 12 := by simpa using r
  unfold M_opens
  rw [if_pos kK_121, e12, if_neg (by omega), e29, show w32 (N - b) = N - b by unfold w32; omega, if_neg (by omega)]
  exact opens_new S e12 (by omega) (by omega) ok k l up
theorem opens_b (bad : g 121 27 ≠ 0) (k l up P : Int) : M_opens 121 k l up P g = some (40, g) := by
  have j30 : M_opens_j30 121 k l up g = some (40, g) := by
    rw [opens_eq, if_pos kK_121, good_n bad, ob_some, if_pos rfl]
  unfold M_opens M_opens_j23
  rw [if_pos kK_121, if_pos kK_121, errs_n bad, ob_some, j30]
  split
  · rfl
  · split <;> rfl
theorem opens_n (e12 : g 121 12 = N) (e29 : g 121 29 = b) (bd : 0 ≤ b ∧ b ≤ N ∧ N ≤ 40 ∧ N ≤ b + 12) (ok : g 121 27 = 0) (r : rmN b N = false) (k l up P : Int) : M_opens 121 k l up P g = some (40, errG g 3 P) := by
  unfold rmN at r
  have r' : ¬ (N < 40 ∧ N - b < 12) := by simpa using r
  have j30 : M_opens_j30 121 k l up (errG g 3 P) = some (40, errG g 3 P) := by
    rw [opens_eq, if_pos kK_121, good_n (by rw [errG_27]; decide), ob_some, if_pos rfl]
  have j23 : M_opens_j23 121 k l up P g = some (40, errG g 3 P) := by
    unfold M_opens_j23
    rw [if_pos kK_121, errs_y ok, ob_some, j30]
  unfold M_opens
  rw [if_pos kK_121, e12]
  by_cases z : N = 40
  · rw [if_pos z, j23]
  · rw [if_neg z, e29, show w32 (N - b) = N - b by unfold w32; omega, if_pos (by omega), j23]
end
