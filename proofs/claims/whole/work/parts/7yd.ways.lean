/-! ways: what the calls answer -/
def xq_steps (r : Int) (f : Hp) : Option (Int × Hp) :=
    if 0 ≤ r then
      if kK (f 0 11) = 8 then
      some (f (f 0 11) 1, f)
      else none
    else
      some (r, f)
theorem xq_steps_eq (l1 : Int) (h : Hp) : X_steps 0 l1 h = if kK 0 = 10 then ob (X_findWay 0 l1 h) (fun r2 => xq_steps  r2.1 r2.2) else none := rfl
def mq_steps (d : Nat) (r : Int) (f : Hp) : Option (Int × Hp) :=
    some ((if r = 0 then f 121 48 else r), f)
theorem mq_steps_eq (d : Nat) (l1 : Int) (h : Hp) : M_steps d 121 l1 h = if kK 121 = 11 then ob (M_laysWay (d - 1) 121 l1 h) (fun r2 => mq_steps d  r2.1 r2.2) else none := rfl
def xq_step (l3 l4 : Int) (r : Int) (f : Hp) : Option (Int × Hp) :=
    if 0 ≤ r then
      if l3 < 0 then
        some ((-2), f)
      else
        if kK (f 0 11) = 8 then
        if l3 < f (f 0 11) 1 then
          if l4 = 0 then
            if kK (f (f 0 11) 4) = 21 ∧ (0 : Int) ≤ l3 ∧ l3 < kL (f (f 0 11) 4) then
            some (f (f (f 0 11) 4) l3, f)
            else none
          else
            if l4 = 1 then
              if kK (f (f 0 11) 5) = 21 ∧ (0 : Int) ≤ l3 ∧ l3 < kL (f (f 0 11) 5) then
              some (f (f (f 0 11) 5) l3, f)
              else none
            else
              if l4 = 2 then
                if kK (f (f 0 11) 6) = 21 ∧ (0 : Int) ≤ l3 ∧ l3 < kL (f (f 0 11) 6) then
                some (f (f (f 0 11) 6) l3, f)
                else none
              else
                if l4 = 3 then
                  if kK (f (f 0 11) 7) = 21 ∧ (0 : Int) ≤ l3 ∧ l3 < kL (f (f 0 11) 7) then
                  some (f (f (f 0 11) 7) l3, f)
                  else none
                else
                  some ((-2), f)
        else
          some ((-2), f)
        else none
    else
      some (r, f)
theorem xq_step_eq (l1 l3 l4 : Int) (h : Hp) : X_step 0 l1 l3 l4 h = if kK 0 = 10 then ob (X_findWay 0 l1 h) (fun r2 => xq_step l3 l4 r2.1 r2.2) else none := rfl
def mq_step (d : Nat) (l3 l4 : Int) (r : Int) (f : Hp) : Option (Int × Hp) :=
    if r = 0 then
      ob (M_in l3 0 (w32 ((f 121 48) - 1))) (fun r25 =>
        if r25 = 0 then
          some ((-2), f)
        else
          if l4 = 0 then
            if kK (f 121 49) = 21 ∧ (0 : Int) ≤ l3 ∧ l3 < kL (f 121 49) then
            some (f (f 121 49) l3, f)
            else none
          else
            if l4 = 1 then
              if kK (f 121 50) = 21 ∧ (0 : Int) ≤ l3 ∧ l3 < kL (f 121 50) then
              some (f (f 121 50) l3, f)
              else none
            else
              if l4 = 2 then
                if kK (f 121 51) = 21 ∧ (0 : Int) ≤ l3 ∧ l3 < kL (f 121 51) then
                some (f (f 121 51) l3, f)
                else none
              else
                if l4 = 3 then
                  if kK (f 121 52) = 21 ∧ (0 : Int) ≤ l3 ∧ l3 < kL (f 121 52) then
                  some (f (f 121 52) l3, f)
                  else none
                else
                  some ((-2), f))
    else
      some (r, f)
theorem mq_step_eq (d : Nat) (l1 l3 l4 : Int) (h : Hp) : M_step d 121 l1 l3 l4 h = if kK 121 = 11 then ob (M_laysWay (d - 1) 121 l1 h) (fun r2 => mq_step d l3 l4 r2.1 r2.2) else none := rfl
def xq_whose (l3 l4 : Int) (r : Int) (f : Hp) : Option (Int × Hp) :=
    if 0 ≤ r then
      if l3 < 0 then
        some ((-2), f)
      else
        if kK (f 0 11) = 8 then
        if kK (f (f 0 11) 10) = 0 then
        if f (f (f 0 11) 10) 1 ≤ l3 then
          some ((-2), f)
        else
          if l4 < 0 then
            some ((-2), f)
          else
            if l4 ≤ 1 then
              if l4 = 0 then
                if kK (f (f 0 11) 11) = 21 ∧ (0 : Int) ≤ l3 ∧ l3 < kL (f (f 0 11) 11) then
                some (f (f (f 0 11) 11) l3, f)
                else none
              else
                if kK (f (f 0 11) 12) = 21 ∧ (0 : Int) ≤ l3 ∧ l3 < kL (f (f 0 11) 12) then
                some (f (f (f 0 11) 12) l3, f)
                else none
            else
              some ((-2), f)
        else none
        else none
    else
      some (r, f)
theorem xq_whose_eq (l1 l3 l4 : Int) (h : Hp) : X_whose 0 l1 l3 l4 h = if kK 0 = 10 then ob (X_findWay 0 l1 h) (fun r2 => xq_whose l3 l4 r2.1 r2.2) else none := rfl
def mq_whose (d : Nat) (l3 l4 : Int) (r : Int) (f : Hp) : Option (Int × Hp) :=
    if r = 0 then
      ob (M_in l3 0 (w32 ((f 121 32) - 1))) (fun r25 =>
        if r25 = 0 then
          some ((-2), f)
        else
          ob (M_in l4 0 1) (fun r36 =>
            if r36 = 0 then
              some ((-2), f)
            else
              if l4 = 0 then
                if kK (f 121 54) = 21 ∧ (0 : Int) ≤ l3 ∧ l3 < kL (f 121 54) then
                some (f (f 121 54) l3, f)
                else none
              else
                if kK (f 121 55) = 21 ∧ (0 : Int) ≤ l3 ∧ l3 < kL (f 121 55) then
                some (f (f 121 55) l3, f)
                else none))
    else
      some (r, f)
theorem mq_whose_eq (d : Nat) (l1 l3 l4 : Int) (h : Hp) : M_whose d 121 l1 l3 l4 h = if kK 121 = 11 then ob (M_laysWay (d - 1) 121 l1 h) (fun r2 => mq_whose d l3 l4 r2.1 r2.2) else none := rfl
def xq_arcs (l3 : Int) (r : Int) (f : Hp) : Option (Int × Hp) :=
    if 0 ≤ r then
      if l3 = 0 then
        if kK (f 0 11) = 8 then
        ob (Wy_arcCount (f 0 11) f) (fun r48 =>
          some (r48, f))
        else none
      else
        if l3 = 1 then
          if kK (f 0 11) = 8 then
          ob (Wy_crossings (f 0 11) f) (fun r56 =>
            some (r56, f))
          else none
        else
          if l3 = 2 then
            if kK (f 0 11) = 8 then
            ob (Wy_longestArc (f 0 11) f) (fun r64 =>
              some (r64, f))
            else none
          else
            some ((-2), f)
    else
      some (r, f)
theorem xq_arcs_eq (l1 l3 : Int) (h : Hp) : X_arcs 0 l1 l3 h = if kK 0 = 10 then ob (X_findWay 0 l1 h) (fun r2 => xq_arcs l3 r2.1 r2.2) else none := rfl
def mq_arcs (d : Nat) (l3 : Int) (r : Int) (f : Hp) : Option (Int × Hp) :=
    if r = 0 then
      ob (M_in l3 0 2) (fun r21 =>
        if r21 = 0 then
          some ((-2), f)
        else
          ob (loopN (fun q => M_arcs_L42 d 121 l3 f q.1 q.2.1 q.2.2.1 q.2.2.2) LN (0, 0, 0, 0)) (fun e138 =>
            some ((if l3 = 0 then e138.1 else (if l3 = 1 then e138.2.1 else e138.2.2)), f)))
    else
      some (r, f)
theorem mq_arcs_eq (d : Nat) (l1 l3 : Int) (h : Hp) : M_arcs d 121 l1 l3 h = if kK 121 = 11 then ob (M_laysWay (d - 1) 121 l1 h) (fun r2 => mq_arcs d l3 r2.1 r2.2) else none := rfl
def xq_grown (l3 : Int) (r : Int) (f : Hp) : Option (Int × Hp) :=
    if 0 ≤ r then
      if l3 = 0 then
        if kK (f 0 11) = 8 then
        some (f (f 0 11) 2, f)
        else none
      else
        if l3 = 1 then
          if kK (f 0 11) = 8 then
          some (f (f 0 11) 3, f)
          else none
        else
          some ((-2), f)
    else
      some (r, f)
theorem xq_grown_eq (l1 l3 : Int) (h : Hp) : X_grown 0 l1 l3 h = if kK 0 = 10 then ob (X_findWay 0 l1 h) (fun r2 => xq_grown l3 r2.1 r2.2) else none := rfl
def mq_grown (d : Nat) (l3 : Int) (r : Int) (f : Hp) : Option (Int × Hp) :=
    if r = 0 then
      ob (M_in l3 0 1) (fun r19 =>
        if r19 = 0 then
          some ((-2), f)
        else
          if l3 = 0 then
            ob (M_deepAbove (d - 1) 121 0 0 f) (fun r35 =>
              some (r35, f))
          else
            ob (loopN (fun q => M_grown_L45 d 121 f q.1 q.2) LN (0, 0)) (fun e76 =>
              some (e76, f)))
    else
      some (r, f)
theorem mq_grown_eq (d : Nat) (l1 l3 : Int) (h : Hp) : M_grown d 121 l1 l3 h = if kK 121 = 11 then ob (M_laysWay (d - 1) 121 l1 h) (fun r2 => mq_grown d l3 r2.1 r2.2) else none := rfl
def xq_tell (r : Int) (f : Hp) : Option (Int × Hp) :=
    if 0 ≤ r then
      if kK (f 0 11) = 8 then
      if kK (f 0 1) = 0 then
      ob (By_takeFrom (f 0 1) (f (f 0 11) 9) 0 f) (fun r24 =>
        if kK (r24 0 1) = 0 then
        some (r24 (r24 0 1) 1, r24)
        else none)
      else none
      else none
    else
      some (r, f)
theorem xq_tell_eq (l1 : Int) (h : Hp) : X_tell 0 l1 h = if kK 0 = 10 then ob (X_findWay 0 l1 h) (fun r2 => xq_tell  r2.1 r2.2) else none := rfl
def mq_tell (d : Nat) (r : Int) (f : Hp) : Option (Int × Hp) :=
    if r = 0 then
      let h_1 := hput f 121 57 0
      let h_2 := hput h_1 121 58 0
      ob (M_tellsAbove (d - 1) 121 0 0 h_2) (fun r25 =>
        some (r25 121 57, r25))
    else
      some (r, f)
theorem mq_tell_eq (d : Nat) (l1 : Int) (h : Hp) : M_tell d 121 l1 h = if kK 121 = 11 then ob (M_laysWay (d - 1) 121 l1 h) (fun r2 => mq_tell d  r2.1 r2.2) else none := rfl
def xq_tellWay (r : Int) (f : Hp) : Option (Int × Hp) :=
    if 0 ≤ r then
      if kK (f 0 1) = 0 then
      let h_1 := hput f (f 0 1) 1 0
      if kK (h_1 0 11) = 8 then
      ob (Wy_tellSteps (h_1 0 11) (h_1 0 1) h_1) (fun r28 =>
        if kK (r28 0 1) = 0 then
        some (r28 (r28 0 1) 1, r28)
        else none)
      else none
      else none
    else
      some (r, f)
theorem xq_tellWay_eq (l1 : Int) (h : Hp) : X_tellWay 0 l1 h = if kK 0 = 10 then ob (X_findWay 0 l1 h) (fun r2 => xq_tellWay  r2.1 r2.2) else none := rfl
def mq_tellWay (d : Nat) (r : Int) (f : Hp) : Option (Int × Hp) :=
    if r = 0 then
      let h_1 := hput f 121 57 0
      ob (loopN (fun q => M_tellWay_L20 d 121 q.1 q.2) LN (0, h_1)) (fun e91 =>
        some (e91 121 57, e91))
    else
      some (r, f)
theorem mq_tellWay_eq (d : Nat) (l1 : Int) (h : Hp) : M_tellWay d 121 l1 h = if kK 121 = 11 then ob (M_laysWay (d - 1) 121 l1 h) (fun r2 => mq_tellWay d  r2.1 r2.2) else none := rfl
section
variable {h h' g g' : Hp} {P o8 n : Int} {G : Gm} {row : Int → Int}
theorem BM_eq (B : BM g G o8 n row) (e1 : ∀ s, (s ≤ 19 ∨ s = 21 ∨ (31 ≤ s ∧ s ≤ 33) ∨ (36 ≤ s ∧ s ≤ 44)) → g' 121 s = g 121 s) (ec : ∀ c s, ((122 ≤ c ∧ c ≤ 134) ∨ c = 137 ∨ (139 ≤ c ∧ c ≤ 143)) → g' c s = g c s) : BM g' G o8 n row := by
  obtain ⟨S, T, X, I, o, L⟩ := B
  refine ⟨?_, ?_, ?_, I, o, ?_⟩
  · intro q hq
    have : ∀ q ∈ msL, (q.1 ≤ 19 ∨ q.1 = 21 ∨ (31 ≤ q.1 ∧ q.1 ≤ 33) ∨ (36 ≤ q.1 ∧ q.1 ≤ 44)) := by decide
    rw [e1 _ (this q hq)]
    exact S q hq
  · unfold SpM spT at T ⊢
    simp only [ec 139 _ (by decide), ec 140 _ (by decide), ec 141 _ (by decide), ec 142 _ (by decide), ec 143 _ (by decide)]
    exact T
  · unfold GM at X ⊢
    rw [e1 1 (by decide), e1 2 (by decide), e1 3 (by decide)]
    simp only [ec 122 _ (by decide), ec 123 _ (by decide), ec 124 _ (by decide), ec 125 _ (by decide), ec 126 _ (by decide), ec 127 _ (by decide), ec 128 _ (by decide), ec 129 _ (by decide), ec 130 _ (by decide), ec 131 _ (by decide), ec 132 _ (by decide), ec 133 _ (by decide), ec 134 _ (by decide)]
    exact X
  · unfold LetM at L ⊢
    rw [e1 32 (by decide)]
    simp only [ec 137 _ (by decide)]
    exact L
theorem BM_ly (B : BM g G o8 n row) (F : LyF g g') : BM g' G o8 n row := BM_eq B (fun s hs => F 121 s (Or.inr (by omega)) (by decide) (by decide)) (fun c s hc => F c s (Or.inl (by omega)) (by omega) (by omega))
theorem SShp_ly (S : SShp g) (F : LyF g g') : SShp g' := by
  intro q hq
  have : ∀ q ∈ ssL, q.1 ≠ 34 ∧ q.1 ≠ 35 ∧ q.1 ≠ 48 := by decide
  rw [F 121 q.1 (Or.inr (this q hq)) (by decide) (by decide)]
  exact S q hq
/-- what of the class holds after a question about a way -/
def XA (h h' : Hp) (P : Int) (G : Gm) (o8 n : Int) (row : Int → Int) : Prop := FdF h h' ∧ (0 ≤ h' 0 17 ∧ h' 0 17 < 512) ∧ (bit (h' 0 17) 6 = 1 → CntOK h' P G o8 n row) ∧ (bit (h' 0 17) 8 = 1 → FndOK h' G o8 n row) ∧ ∀ t, 0 ≤ t → t < 9 → t ≠ 6 → t ≠ 8 → bit (h' 0 17) t = bit (h 0 17) t
theorem XWay_eq {t : Int} {d : Dv} (em : ∀ c s, 59 ≤ c → c ≤ 70 → h' c s = h c s) (X : XWay h G t d) : XWay h' G t d := by
  unfold XWay XTb TxU LtU ByT NuU HdU at X ⊢
  simp only [em 59 _ (by decide) (by decide), em (59 + 1) _ (by decide) (by decide), em (59 + 2) _ (by decide) (by decide), em (59 + 3) _ (by decide) (by decide), em (59 + 4) _ (by decide) (by decide), em (59 + 5) _ (by decide) (by decide), em (59 + 6) _ (by decide) (by decide), em (59 + 7) _ (by decide) (by decide), em (59 + 8) _ (by decide) (by decide), em (59 + 9) _ (by decide) (by decide), em (59 + 10) _ (by decide) (by decide), em (59 + 11) _ (by decide) (by decide)]
  exact X
theorem FndOK_eq (em : ∀ c s, 59 ≤ c → c ≤ 70 → h' c s = h c s) (X : FndOK h G o8 n row) : FndOK h' G o8 n row := by
  obtain ⟨k, t, d, a, b, c⟩ := X
  exact ⟨k, t, d, by rw [em 59 0 (by decide) (by decide)]; exact a, b, XWay_eq em c⟩
theorem or64 {x : Int} (k0 : 0 ≤ x) (k1 : x < 512) : 0 ≤ i_or x 64 ∧ i_or x 64 < 512 ∧ ∀ t, 0 ≤ t → t < 9 → bit (i_or x 64) t = if t = 6 then 1 else bit x t := by
  have e64 : i_shl 1 6 = 64 := by decide
  have o := or1_in (x := x) (t := 6) (n := 9) k0 (by decide) (by decide) (by rw [show (((2 ^ (9 : Int).toNat : Nat)) : Int) = 512 by decide]; exact k1) (by decide) (by decide)
  rw [e64, show (((2 ^ (9 : Int).toNat : Nat)) : Int) = 512 by decide] at o
  refine ⟨o.1, o.2, fun t t0 t1 => ?_⟩
  have b := bit_or1 (x := x) (t := 6) (u := t) k0 (by omega) (by decide) (by decide) t0 (by omega)
  rw [e64] at b
  exact b
theorem or256 {x : Int} (k0 : 0 ≤ x) (k1 : x < 512) : 0 ≤ i_or x 256 ∧ i_or x 256 < 512 ∧ ∀ t, 0 ≤ t → t < 9 → bit (i_or x 256) t = if t = 8 then 1 else bit x t := by
  have e : i_shl 1 8 = 256 := by decide
  have o := or1_in (x := x) (t := 8) (n := 9) k0 (by decide) (by decide) (by rw [show (((2 ^ (9 : Int).toNat : Nat)) : Int) = 512 by decide]; exact k1) (by decide) (by decide)
  rw [e, show (((2 ^ (9 : Int).toNat : Nat)) : Int) = 512 by decide] at o
  refine ⟨o.1, o.2, fun t t0 t1 => ?_⟩
  have b := bit_or1 (x := x) (t := 8) (u := t) k0 (by omega) (by decide) (by decide) t0 (by omega)
  rw [e] at b
  exact b
theorem XA_cnf (k0 : 0 ≤ h 0 17) (k1 : h 0 17 < 512) (hF : bit (h 0 17) 8 = 1 → FndOK h G o8 n row) (F : CnF h h') (C : CntOK h' P G o8 n row) : XA h h' P G o8 n row := by
  have o := or64 k0 k1
  refine ⟨F.fd, by rw [F.2]; exact ⟨o.1, o.2.1⟩, fun _ => C, fun z => ?_, fun t t0 t1 h6 h8 => ?_⟩
  · rw [F.2, o.2.2 8 (by decide) (by decide), if_neg (by decide)] at z
    exact FndOK_eq (fun c s a b => F.1 c s (by omega) (by omega) (Or.inl (by omega)) (Or.inl (by omega))) (hF z)
  · rw [F.2, o.2.2 t t0 t1, if_neg h6]
/-- both find the same -/
theorem find_both (B : BX h P G o8 n row) (k0 : 0 ≤ h 0 17) (k1 : h 0 17 < 512) (hC : bit (h 0 17) 6 = 1 → CntOK h P G o8 n row) (hF : bit (h 0 17) 8 = 1 → FndOK h G o8 n row) (BMg : BM g G o8 n row) (S : SShp g) {d : Nat} (hd : 1953 ≤ d) (k : Int) :
    ∃ v h' g', X_findWay 0 k h = some (v, h') ∧ M_laysWay d 121 k g = some (v, g') ∧ XA h h' P G o8 n row ∧ LyF g g' ∧ (v < 0 ∨ (v = 0 ∧ ∃ t dv, (0 ≤ t ∧ t < nT G ∧ sp G (ft G t) = 0 ∧ Gu G dv) ∧ Sh G dv 1 (ft G t) ∧ dst dv ≤ 40 ∧ XWay h' G t dv ∧ MWay g' G n t dv)) := by
  have nn := bx_n B
  have I := bx_G B
  rcases X_findWay_ok B k0 k1 hC hF k with ⟨a, x⟩ | ⟨a, a1, h', x, F, C⟩ | ⟨a, a1, a2, h', x, F, C⟩ | ⟨a, a1, a2, t, dv, A, h', x, F, e17, C, e59, X⟩
  · rcases M_laysWay_ok BMg S hd k with ⟨b, y⟩ | ⟨b, -⟩ | ⟨b, -⟩ | ⟨b, -⟩
    · exact ⟨-2, h, g, x, y, ⟨⟨Vol.rf, fun _ _ _ _ _ _ _ => rfl⟩, ⟨k0, k1⟩, hC, hF, fun _ _ _ _ _ => rfl⟩, fun _ _ _ _ _ => rfl, Or.inl (by decide)⟩
    · omega
    · omega
    · omega
  · rcases M_laysWay_ok BMg S hd k with ⟨b, -⟩ | ⟨b, -, g', y, Fy⟩ | ⟨b, b1, -⟩ | ⟨b, b1, -⟩
    · omega
    · exact ⟨-3, h', g', x, y, XA_cnf k0 k1 hF F C, Fy, Or.inl (by decide)⟩
    · omega
    · omega
  · rcases M_laysWay_ok BMg S hd k with ⟨b, -⟩ | ⟨b, b1, -⟩ | ⟨b, -, -, g', y, Fy⟩ | ⟨b, b1, b2, -⟩
    · omega
    · omega
    · exact ⟨-1, h', g', x, y, XA_cnf k0 k1 hF F C, Fy, Or.inl (by decide)⟩
    · omega
  · rcases M_laysWay_ok BMg S hd k with ⟨b, -⟩ | ⟨b, b1, -⟩ | ⟨b, b1, b2, -⟩ | ⟨b, b1, b2, b3, f⟩
    · omega
    · omega
    · omega
    · obtain ⟨g', y, Fy, M'⟩ := f t dv A
      obtain ⟨k', -, N, -, hkw, t0, t1, hg, hit, db, -, sh⟩ := way_in I nn.2.1 nn.2.2 A
      have o := or64 k0 k1
      have o' := or256 o.1 o.2.1
      refine ⟨0, h', g', x, y, ⟨F, by rw [e17]; exact ⟨o'.1, o'.2.1⟩, fun _ => C, fun _ => ⟨k.toNat, t, dv, by rw [e59]; omega, A, X⟩, fun u u0 u1 h6 h8 => ?_⟩, Fy, Or.inr ⟨rfl, t, dv, ⟨t0, t1, (goB_spec hg).1, Nth_Gu I dv _ _ _ _ _ _ _ hit hkw N⟩, sh, db, X, M'⟩⟩
      rw [e17, o'.2.2 u u0 u1, if_neg h8, o.2.2 u u0 u1, if_neg h6]
theorem Ents_get {fs fo : Int → Int} {m : Int} (m0 : 0 ≤ m) {i : Nat} {e : Int × Int} : (Ents fs fo 0 m)[i]? = some e ↔ (i : Int) < m ∧ e = (fs i, fo i) := by
  unfold Ents
  rw [List.getElem?_map]
  by_cases hi : (i : Int) < m
  · rw [List.getElem?_range (by omega)]
    constructor
    · intro z
      have : (fs (0 + (i : Int)), fo (0 + (i : Int))) = e := by simpa using z
      rw [← this, show (0 : Int) + (i : Int) = i by omega]
      exact ⟨hi, rfl⟩
    · rintro ⟨-, rfl⟩
      show some (fs (0 + (i : Int)), fo (0 + (i : Int))) = _
      rw [show (0 : Int) + (i : Int) = i by omega]
  · rw [List.getElem?_eq_none (by rw [List.length_range]; omega)]
    constructor
    · intro z; exact absurd z (by simp)
    · intro z; exact absurd z.1 hi
/-- letters and heads are the same on both sides -/
theorem both_letters (I : GIn G) (BMg : BM g G o8 n row) {t : Int} {dv : Dv} (t0 : 0 ≤ t) (t1 : t < nT G) (sh : Sh G dv 1 (ft G t)) (X : XWay h G t dv) (M' : MWay g G n t dv) : (∀ (i : Nat) (e : Int × Int), (uY G (stW G t dv) dv 0 (ft G t) [])[i]? = some e ↔ (i : Int) < n ∧ e = (g 153 i, g 154 i)) ∧ (uY G (stW G t dv) dv 0 (ft G t) []).length = n.toNat ∧ ∀ s : Int, 0 ≤ s → s < ((stW G t dv).length : Int) → h (59 + 4) s = g 151 s := by
  have W := I.1
  have nL := bm_L BMg
  obtain ⟨at', ey, sl, s0⟩ := stW_At I t0 t1 sh
  obtain ⟨M1, M2, M3, M4⟩ := M'
  have eL : ∀ (i : Nat) (e : Int × Int), (uY G (stW G t dv) dv 0 (ft G t) [])[i]? = some e ↔ (i : Int) < n ∧ e = (g 153 i, g 154 i) := by
    intro i e
    rw [ey, M2]
    exact Ents_get nL.2.1
  have nd : (uY G (stW G t dv) dv 0 (ft G t) []).Nodup := by
    rw [ey]
    obtain ⟨en, E⟩ := I.2.2
    have hr := root_in W t0 t1
    exact yl_nd W E dv 0 1 (ft G t) [] 1 sh hr.1 hr.2.1 (by decide) List.nodup_nil (fun e he => absurd he (List.not_mem_nil))
  refine ⟨eL, by rw [ey, M2, Ents_len]; congr 1; omega, ?_⟩
  intro s a b
  have htr : 0 ≤ (sEnt (stW G t dv) s).1 ∧ (sEnt (stW G t dv) s).1 < nT G → g 133 (sEnt (stW G t dv) s).1 = fstK G (sEnt (stW G t dv) s).1 1 := fun z => ((bm_X BMg).2.2.2.2.2 _ z.1 z.2).2.2.1
  have htt : 0 ≤ (sEnt (stW G t dv) s).1 ∧ (sEnt (stW G t dv) s).1 < nT G := by
    exact stW_tr I t0 t1 sh a b
  have e133 := htr htt
  rcases X.2.2.2.2 s a b with ⟨p1, p2⟩ | ⟨i, p1, p2⟩
  · rcases M4 s a b with ⟨q1, -⟩ | ⟨m, ⟨m0, m1⟩, q1, q2, q3⟩
    · rw [p1, q1]
    · exfalso
      apply p2 m.toNat
      rw [eL, show ((m.toNat : Nat) : Int) = m by omega]
      exact ⟨m1, by rw [q1, q2, e133]⟩
  · obtain ⟨i1, i2⟩ := (eL i _).mp p1
    rcases M4 s a b with ⟨q1, q2⟩ | ⟨m, ⟨m0, m1⟩, q1, q2, q3⟩
    · exfalso
      refine q2 i (by omega) i1 ⟨(congrArg Prod.fst i2).symm, ?_⟩
      rw [e133]
      exact (congrArg Prod.snd i2).symm
    · have : (uY G (stW G t dv) dv 0 (ft G t) [])[m.toNat]? = some (s, fstK G (sEnt (stW G t dv) s).1 1) := by
        rw [eL, show ((m.toNat : Nat) : Int) = m by omega]
        exact ⟨m1, by rw [q1, q2, e133]⟩
      have hh := nd_inj nd p1 this
      rw [p2, q3]
      omega
end
