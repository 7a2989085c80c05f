/-! every call that asks keeps what holds between calls -/
def Bth (x : Option (Int × Hp)) (m : Hp → Option (Int × Hp)) : Prop := ∃ v h1 h2, x = some (v, h1) ∧ m h1 = some (v, h2) ∧ Inv h2
def Ask (x m : Option Int) : Prop := ∃ v, x = some v ∧ m = some v
section
variable {h h' h1 : Hp} {P n o8 : Int} {G : Gm} {row : Int → Int} {tl : Int} {tp : Int → Int} {wl : Int} {wd : Int → Int} {fk fp : Int}
theorem Lk.lk2 (F : Lk h h') : Lk2 h h' := fun c s h1 h2 h3 h4 h5 h6 => F c s (h1.elim Or.inl (fun z => Or.inr ⟨z.1, z.2.1⟩)) h2 h3 h4 h5 h6
theorem CnC.vol (F : CnC h h' P G o8 n row) : Vol h h' := by
  rcases F with rfl | F
  · exact Vol.rf
  · exact F.1.vol
theorem IX_cnc (I : IX h P G o8 n row tl tp wl wd fk fp) (F : CnC h h' P G o8 n row) : IX h' P G o8 n row tl tp wl wd fk fp := by
  refine IX_mk I F.vol (fun c s z => ?_) (Kn_cnc (bx_P I.1) I.2.1 F)
  rcases F with rfl | F
  · rfl
  · exact F.1.1 c s (by omega) (by omega) (by omega) (by omega)
theorem IX_chf (I : IX h P G o8 n row tl tp wl wd fk fp) (F : ChF 38 h h') : IX h' P G o8 n row tl tp wl wd fk fp :=
  IX_mk I (ChF.vol (Or.inr rfl) F) (fun c s z => F c s (Or.inl (by omega)) (by omega) (by omega)) (Kn_chf (bx_P I.1) I.2.1 F)
theorem IX_smf (I : IX h P G o8 n row tl tp wl wd fk fp) (F : h' = h ∨ (SmF h h' ∧ h' 0 18 = sumV G o8 n row)) : IX h' P G o8 n row tl tp wl wd fk fp ∧ Hi h h' := by
  have K := Kn_smf (bx_P I.1) I.2.1 F
  rcases F with rfl | F
  · exact ⟨I, fun _ _ _ => rfl⟩
  · exact ⟨IX_mk I F.1.vol (fun c s z => F.1.1 c s (Or.inl (by omega)) (by omega) (by omega) (by omega)) K, F.1.vol.hi⟩
theorem IX_lkk {b : Int} (I : IX h P G o8 n row tl tp wl wd fk fp) (b0 : 0 ≤ b) (b1 : b ≤ 5) (F : LkK b h h') (c5 : b = 5 → LsI h' 5 (mendL G o8 n row)) (cm : ∀ v : Nat, h P 5 = (v : Int) → ∀ m : Nat, b = m → m ≤ 4 → LsI h' m (sentL v G o8 m)) : IX h' P G o8 n row tl tp wl wd fk fp :=
  IX_mk I (F.vol b0 (by omega)) (fun c s z => F.1 c s (Or.inl (by omega)) (by omega) (by omega) (Or.inl (by omega)) (by omega) (by omega) (by omega) (by omega) (by omega)) (Kn_lkk (bx_P I.1) I.2.1 b0 b1 F c5 cm)
theorem IX_xa (I : IX h P G o8 n row tl tp wl wd fk fp) (A : XA h h' P G o8 n row) : IX h' P G o8 n row tl tp wl wd fk fp :=
  IX_mk I A.1.1 (fun c s z => A.1.2 c s (by omega) (by omega) (by omega) (by omega) (by omega)) (Kn_xa (bx_P I.1) I.2.1 A)
theorem bth_lk2 {x : Option (Int × Hp)} {m : Hp → Option (Int × Hp)} {v : Int} (EX : EnX G) (ex : x = some (v, h1)) (J : IX h1 P G o8 n row tl tp wl wd fk fp) (I : IM h G o8 n row tl tp wl wd fk fp) (hi : Hi h h1) (M : ∀ g, BM g G o8 n row → ∃ g', m g = some (v, g') ∧ Lk2 g g') : Bth x m := by
  have I1 := IM_hi I hi
  obtain ⟨g', e, F⟩ := M h1 I1.1
  exact ⟨v, h1, g', ex, e, P, G, o8, n, row, tl, tp, wl, wd, fk, fp, EX, IX_lo J F.lo, IM_lk2 I1 F⟩
theorem bth_way {x : Option (Int × Hp)} {m : Hp → Option (Int × Hp)} (EX : EnX G) (J : IX h P G o8 n row tl tp wl wd fk fp) (I : IM h G o8 n row tl tp wl wd fk fp) (M : ∀ g, PreW h g P G o8 n row → ∃ v h' g', x = some (v, h') ∧ m g = some (v, g') ∧ XA h h' P G o8 n row ∧ LyF g g') : Bth x m := by
  have pw : ∀ g, BM g G o8 n row → SShp g → PreW h g P G o8 n row := fun g b s => ⟨J.1, J.2.1.1, J.2.1.2.1, J.2.1.2.2.1, b, s⟩
  obtain ⟨v, h1, g1, e1, -, A1, -⟩ := M h (pw h I.1 I.2.2.2.1)
  have hi := A1.1.1.hi
  have I1 := IM_hi I hi
  obtain ⟨v', h2, g2, e2, m2, A2, F2⟩ := M h1 (pw h1 I1.1 I1.2.2.2.1)
  rw [e1] at e2
  injection e2 with e2
  injection e2 with ev eh
  subst ev
  subst eh
  exact ⟨v, h1, g2, e1, m2, P, G, o8, n, row, tl, tp, wl, wd, fk, fp, EX, IX_lo (IX_xa J A2) F2.lo, IM_lyf I1 F2⟩
end
section
variable {h : Hp} {d : Nat}
theorem kc_of {P n o8 : Int} {G : Gm} {row : Int → Int} (K : Kn h P G o8 n row) : KC h P G o8 n row := ⟨K.1.1, K.1.2, K.2.1⟩
theorem k_count (I : Inv h) (w : Int) : Ask (X_count 0 w h) (M_count 121 w h) := by
  obtain ⟨P, G, o8, n, row, tl, tp, wl, wd, fk, fp, EX, J, M⟩ := I
  exact count_ok J.1 M.1 (by rw [J.2.2.1.1, M.2.1.1]) (by rw [J.2.2.2.1.1, M.2.2.1.1]) w
theorem k_tree (I : Inv h) (t w : Int) : Ask (X_tree 0 t w h) (M_tree 121 t w h) := by
  obtain ⟨P, G, o8, n, row, tl, tp, wl, wd, fk, fp, EX, J, M⟩ := I
  exact ⟨_, X_tree_ok J.1 t w, M_tree_ok M.1 t w⟩
theorem k_node (I : Inv h) (t x w : Int) : Ask (X_node 0 t x w h) (M_node 121 t x w h) := by
  obtain ⟨P, G, o8, n, row, tl, tp, wl, wd, fk, fp, EX, J, M⟩ := I
  exact ⟨_, X_node_ok J.1 t x w, M_node_ok M.1 t x w⟩
theorem k_fault (I : Inv h) (w : Int) : Ask (X_fault 0 w h) (M_fault 121 w h) := by
  obtain ⟨P, G, o8, n, row, tl, tp, wl, wd, fk, fp, EX, J, M⟩ := I
  exact fault_ok (bx_sx J.1) (by rw [J.2.2.2.2.1, M.2.2.2.2.2.1]) (by rw [J.2.2.2.2.2, M.2.2.2.2.2.2]) w
theorem k_octet (I : Inv h) (i : Int) : Ask (X_octet 0 i h) (M_octet 121 i h) := by
  obtain ⟨P, G, o8, n, row, tl, tp, wl, wd, fk, fp, EX, J, M⟩ := I
  exact octet_ok (bx_sx J.1) J.2.2.2.1 M.2.2.1 i
theorem k_over (I : Inv h) (hd : 1960 ≤ d) (t x half i j p q : Int) : Bth (X_over 0 t x half i j p q h) (fun g => M_over d 121 t x half i j p q g) := by
  obtain ⟨P, G, o8, n, row, tl, tp, wl, wd, fk, fp, EX, J, M⟩ := I
  obtain ⟨h1, e, F⟩ := X_over_ok J.1 (kc_of J.2.1) t x half i j p q
  exact bth_lk2 EX e (IX_cnc J F) M F.vol.hi (fun g b => by obtain ⟨g', y, z⟩ := M_over_ok b (d := d) (by omega) t x half i j p q; exact ⟨g', y, z.lk2⟩)
theorem k_items (I : Inv h) (hd : 1960 ≤ d) (half : Int) : Bth (X_items 0 half h) (fun g => M_items d 121 half g) := by
  obtain ⟨P, G, o8, n, row, tl, tp, wl, wd, fk, fp, EX, J, M⟩ := I
  obtain ⟨h1, e, F⟩ := X_items_ok J.1 (kc_of J.2.1) half
  exact bth_lk2 EX e (IX_cnc J F) M F.vol.hi (fun g b => by obtain ⟨g', y, z⟩ := M_items_ok b (d := d) (by omega) half; exact ⟨g', y, z.lk2⟩)
theorem k_spans (I : Inv h) (hd : 1960 ≤ d) (i j : Int) : Bth (X_spans 0 i j h) (fun g => M_spans d 121 i j g) := by
  obtain ⟨P, G, o8, n, row, tl, tp, wl, wd, fk, fp, EX, J, M⟩ := I
  obtain ⟨h1, e, F⟩ := X_spans_ok J.1 (kc_of J.2.1) i j
  exact bth_lk2 EX e (IX_cnc J F) M F.vol.hi (fun g b => by obtain ⟨g', y, z⟩ := M_spans_ok b (d := d) (by omega) i j; exact ⟨g', y, z.lk2⟩)
theorem k_around (I : Inv h) (hd : 1960 ≤ d) (i j p q : Int) : Bth (X_around 0 i j p q h) (fun g => M_around d 121 i j p q g) := by
  obtain ⟨P, G, o8, n, row, tl, tp, wl, wd, fk, fp, EX, J, M⟩ := I
  obtain ⟨h1, e, F⟩ := X_around_ok J.1 (kc_of J.2.1) i j p q
  exact bth_lk2 EX e (IX_cnc J F) M F.vol.hi (fun g b => by obtain ⟨g', y, z⟩ := M_around_ok b (d := d) (by omega) i j p q; exact ⟨g', y, z.lk2⟩)
theorem k_reads (I : Inv h) (hd : 1960 ≤ d) : Bth (X_reads 0 h) (fun g => M_reads d 121 g) := by
  obtain ⟨P, G, o8, n, row, tl, tp, wl, wd, fk, fp, EX, J, M⟩ := I
  obtain ⟨h1, e, F⟩ := X_reads_ok J.1 (kc_of J.2.1)
  exact bth_lk2 EX e (IX_cnc J F) M F.vol.hi (fun g b => by obtain ⟨g', y, z⟩ := M_reads_ok b (d := d) (by omega); exact ⟨g', y, z.lk2⟩)
theorem k_heads (I : Inv h) (hd : 1960 ≤ d) : Bth (X_heads 0 h) (fun g => M_heads d 121 g) := by
  obtain ⟨P, G, o8, n, row, tl, tp, wl, wd, fk, fp, EX, J, M⟩ := I
  obtain ⟨h1, e, F⟩ := X_heads_ok J.1 (kc_of J.2.1)
  exact bth_lk2 EX e (IX_cnc J F) M F.vol.hi (fun g b => by obtain ⟨g', y, z⟩ := M_heads_ok b (d := d) (by omega); exact ⟨g', y, z.lk2⟩)
theorem k_ways (I : Inv h) (hd : 1960 ≤ d) : Bth (X_ways 0 h) (fun g => M_ways d 121 g) := by
  obtain ⟨P, G, o8, n, row, tl, tp, wl, wd, fk, fp, EX, J, M⟩ := I
  obtain ⟨h1, e, F⟩ := X_ways_ok J.1 (kc_of J.2.1)
  exact bth_lk2 EX e (IX_cnc J F) M F.vol.hi (fun g b => by obtain ⟨g', y, z⟩ := M_ways_ok b (d := d) (by omega); exact ⟨g', y, z.lk2⟩)
theorem k_without (I : Inv h) (hd : 1960 ≤ d) (t : Int) : Bth (X_without 0 t h) (fun g => M_without d 121 t g) := by
  obtain ⟨P, G, o8, n, row, tl, tp, wl, wd, fk, fp, EX, J, M⟩ := I
  obtain ⟨h1, e, F⟩ := X_without_ok J.1 t
  exact bth_lk2 EX e (IX_chf J F) M (ChF.vol (Or.inr rfl) F).hi (fun g b => by obtain ⟨g', y, z⟩ := M_without_ok b (d := d) (by omega) t; exact ⟨g', y, z.lk2⟩)
theorem k_lengths (I : Inv h) (hd : 1960 ≤ d) (w : Int) : Bth (X_lengths 0 w h) (fun g => M_lengths d 121 w g) := by
  obtain ⟨P, G, o8, n, row, tl, tp, wl, wd, fk, fp, EX, J, M⟩ := I
  obtain ⟨h1, e, F⟩ := X_lengths_ok J.1 J.2.1.1.1 J.2.1.1.2 J.2.1.2.2.2.1 w
  have X := IX_smf J F
  exact bth_lk2 EX e X.1 M X.2 (fun g b => M_lengths_ok b (d := d) (by omega) w)
theorem k_used (I : Inv h) (hd : 1960 ≤ d) (w : Int) : Bth (X_used 0 w h) (fun g => M_used d 121 w g) := by
  obtain ⟨P, G, o8, n, row, tl, tp, wl, wd, fk, fp, EX, J, M⟩ := I
  obtain ⟨h1, e, F⟩ := X_used_ok J.1 J.2.1.1.1 J.2.1.1.2 J.2.1.2.2.2.1 w
  have X := IX_smf J F
  exact bth_lk2 EX e X.1 M X.2 (fun g b => M_used_ok b (d := d) (by omega) w)
theorem k_mends (I : Inv h) (hd : 1960 ≤ d) : Bth (X_mends 0 h) (fun g => M_mends d 121 g) := by
  obtain ⟨P, G, o8, n, row, tl, tp, wl, wd, fk, fp, EX, J, M⟩ := I
  obtain ⟨h1, e, F, L⟩ := X_mends_ok J.1 J.2.1.1.1 J.2.1.1.2 J.2.1.2.2.2.2.1
  exact bth_lk2 EX e (IX_lkk J (by decide) (by decide) F (fun _ => L) (fun v hv m hm hm' => by omega)) M (F.vol (by decide) (by decide)).hi (fun g b => M_mends_ok b (d := d) (by omega))
theorem k_mend (I : Inv h) (hd : 1960 ≤ d) (k : Int) : Bth (X_mend 0 k h) (fun g => M_mend d 121 k g) := by
  obtain ⟨P, G, o8, n, row, tl, tp, wl, wd, fk, fp, EX, J, M⟩ := I
  obtain ⟨h1, e, F⟩ := X_mend_ok J.1 J.2.1.1.1 J.2.1.1.2 J.2.1.2.2.2.2.1 k
  rcases F with rfl | ⟨F, L⟩
  · exact bth_lk2 EX e J M (fun _ _ _ => rfl) (fun g b => M_mend_ok b (d := d) (by omega) k)
  · exact bth_lk2 EX e (IX_lkk J (by decide) (by decide) F (fun _ => L) (fun v hv m hm hm' => by omega)) M (F.vol (by decide) (by decide)).hi (fun g b => M_mend_ok b (d := d) (by omega) k)
/-- both know the same letters -/
theorem letters_both {P n o8 : Int} {G : Gm} {row : Int → Int} (B : BX h P G o8 n row) : ∃ v : Nat, h P 5 = (v : Int) ∧ v < 67108864 ∧ ∀ g, BM g G o8 n row → M_lettersOfAll 121 g = some (v : Int) := by
  obtain ⟨q0, q1⟩ := B.2.1.2.2.2.2.2.2.2.2.2
  refine ⟨(h P 5).toNat, by omega, by omega, fun g b => ?_⟩
  obtain ⟨v, e, v0, v1, hb⟩ := M_lettersOfAll_ok b
  have b26 : (((2 ^ (26 : Int).toNat : Nat)) : Int) = 67108864 := by decide
  have : v = h P 5 := by
    refine bit_ext (n := 26) (by decide) (by decide) v0 (by rw [b26]; exact v1) q0.1 (by rw [b26]; exact q0.2) (fun t t0 t1 => ?_)
    have a := hb t t0 t1
    have c := q1 t t0 t1
    rcases bit_z (x := v) (t := t) v0 (by omega) t0 (by omega) with z | z <;> rcases bit_z (x := h P 5) (t := t) q0.1 (by omega) t0 (by omega) with y | y
    · rw [z, y]
    · have := a.mpr (c.mp y); omega
    · have := c.mpr (a.mp z); omega
    · rw [z, y]
  rw [e, this]
  congr 1
  omega
theorem k_sentences (I : Inv h) (hd : 1960 ≤ d) (m : Int) : Bth (X_sentences 0 m h) (fun g => M_sentences d 121 m g) := by
  obtain ⟨P, G, o8, n, row, tl, tp, wl, wd, fk, fp, EX, J, M⟩ := I
  obtain ⟨v, hv, v1, hl⟩ := letters_both J.1
  obtain ⟨h1, e, F⟩ := X_sentences_ok J.1 hv J.2.1.1.1 J.2.1.1.2 (J.2.1.2.2.2.2.2 v hv) m
  rcases F with rfl | ⟨m0, m4, F, L⟩
  · exact bth_lk2 EX e J M (fun _ _ _ => rfl) (fun g b => M_sentences_ok b (hl g b) v1 (d := d) (by omega) m)
  · refine bth_lk2 EX e (IX_lkk J m0 (by omega) F (fun z => by omega) (fun v' hv' k hk hk' => ?_)) M (F.vol m0 (by omega)).hi (fun g b => M_sentences_ok b (hl g b) v1 (d := d) (by omega) m)
    have : v' = v := by omega
    subst this
    subst hk
    rw [show ((k : Int)).toNat = k by omega] at L
    exact L
theorem k_sentence (I : Inv h) (hd : 1960 ≤ d) (m k : Int) : Bth (X_sentence 0 m k h) (fun g => M_sentence d 121 m k g) := by
  obtain ⟨P, G, o8, n, row, tl, tp, wl, wd, fk, fp, EX, J, M⟩ := I
  obtain ⟨v, hv, v1, hl⟩ := letters_both J.1
  obtain ⟨h1, e, F⟩ := X_sentence_ok J.1 hv J.2.1.1.1 J.2.1.1.2 (J.2.1.2.2.2.2.2 v hv) m k
  rcases F with rfl | ⟨m0, m4, F, L⟩
  · exact bth_lk2 EX e J M (fun _ _ _ => rfl) (fun g b => M_sentence_ok b (hl g b) v1 (d := d) (by omega) m k)
  · refine bth_lk2 EX e (IX_lkk J m0 (by omega) F (fun z => by omega) (fun v' hv' i hk hk' => ?_)) M (F.vol m0 (by omega)).hi (fun g b => M_sentence_ok b (hl g b) v1 (d := d) (by omega) m k)
    have : v' = v := by omega
    subst this
    subst hk
    rw [show ((i : Int)).toNat = i by omega] at L
    exact L
theorem k_steps (I : Inv h) (hd : 1960 ≤ d) (k : Int) : Bth (X_steps 0 k h) (fun g => M_steps d 121 k g) := by
  obtain ⟨P, G, o8, n, row, tl, tp, wl, wd, fk, fp, EX, J, M⟩ := I
  exact bth_way EX J M (fun g A => steps_ok A (d := d) (by omega) k)
theorem k_step (I : Inv h) (hd : 1960 ≤ d) (k i w : Int) : Bth (X_step 0 k i w h) (fun g => M_step d 121 k i w g) := by
  obtain ⟨P, G, o8, n, row, tl, tp, wl, wd, fk, fp, EX, J, M⟩ := I
  exact bth_way EX J M (fun g A => step_ok A (d := d) (by omega) k i w)
theorem k_whose (I : Inv h) (hd : 1960 ≤ d) (k i w : Int) : Bth (X_whose 0 k i w h) (fun g => M_whose d 121 k i w g) := by
  obtain ⟨P, G, o8, n, row, tl, tp, wl, wd, fk, fp, EX, J, M⟩ := I
  exact bth_way EX J M (fun g A => whose_ok A (d := d) (by omega) k i w)
theorem k_arcs (I : Inv h) (hd : 1960 ≤ d) (k w : Int) : Bth (X_arcs 0 k w h) (fun g => M_arcs d 121 k w g) := by
  obtain ⟨P, G, o8, n, row, tl, tp, wl, wd, fk, fp, EX, J, M⟩ := I
  exact bth_way EX J M (fun g A => arcs_ok A (d := d) (by omega) k w)
theorem k_grown (I : Inv h) (hd : 1960 ≤ d) (hd' : d ≤ 5000) (k w : Int) : Bth (X_grown 0 k w h) (fun g => M_grown d 121 k w g) := by
  obtain ⟨P, G, o8, n, row, tl, tp, wl, wd, fk, fp, EX, J, M⟩ := I
  exact bth_way EX J M (fun g A => grown_ok A EX (d := d) (by omega) hd' k w)
end
