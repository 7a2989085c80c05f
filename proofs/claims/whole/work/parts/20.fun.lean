/-! the methods as plain functions, by program (wip/gen) -/
def By_room (l0 : Int) (h : Hp) : Option (Int) :=
  if kK l0 = 0 then
  if kK (h l0 0) = 20 then
  some (w32 ((kL (h l0 0)) - (h l0 1)))
  else none
  else none
def By_at (l0 l1 : Int) (h : Hp) : Option (Int) :=
  if l1 < 0 then
    some (-1)
  else
    if kK l0 = 0 then
    if h l0 1 ≤ l1 then
      some (-1)
    else
      if kK (h l0 0) = 20 then
      if l1 < kL (h l0 0) then
        if kK (h l0 0) = 20 ∧ 0 ≤ l1 ∧ l1 < kL (h l0 0) then
        some (i_and (h (h l0 0) l1) 255)
        else none
      else
        some (-1)
      else none
    else none
def By_add (l0 l1 : Int) (h : Hp) : Option (Hp) :=
  if kK l0 = 0 then
  if h l0 1 < 0 then
    some h
  else
    if kK (h l0 0) = 20 then
    if kL (h l0 0) ≤ h l0 1 then
      some h
    else
      if kK (h l0 0) = 20 ∧ 0 ≤ h l0 1 ∧ h l0 1 < kL (h l0 0) then
      let h_1 := hput h (h l0 0) (h l0 1) (w8 (w8 l1))
      let h_2 := hput h_1 l0 1 (w32 ((h_1 l0 1) + 1))
      some h_2
      else none
    else none
  else none
def By_addFour (l0 l1 : Int) (h : Hp) : Option (Hp) :=
  if kK l0 = 0 then
  ob (By_add l0 (i_shr l1 24) h) (fun r5 =>
    ob (By_add l0 (i_shr l1 16) r5) (fun r13 =>
      ob (By_add l0 (i_shr l1 8) r13) (fun r21 =>
        ob (By_add l0 l1 r21) (fun r26 =>
          some r26))))
  else none
def By_addNumber_j17 (l0 l1 : Int) (h : Hp) : Option (Hp) :=
  if kK l0 = 0 then
  ob (By_add l0 (w32 (48 + (w32 (Int.tmod l1 10)))) h) (fun r25 =>
    some r25)
  else none
def By_addNumber (l0 l1 : Int) (h : Hp) : Option (Hp) :=
  if l1 < 10 then
    By_addNumber_j17 l0 l1 h
  else
    if kK l0 = 0 then
    ob (By_add l0 (w32 (48 + (w32 (Int.tdiv l1 10)))) h) (fun r14 =>
      By_addNumber_j17 l0 l1 r14)
    else none
def By_takeFrom_L7 (l0 l1 l2 : Int) (l3 : Int) (h : Hp) : Option ((Int × Hp) ⊕ (Hp)) :=
  if kK l1 = 0 then
  if h l1 1 ≤ l3 then
    some (.inr h)
  else
    ob (By_at l1 l3 h) (fun r18 =>
      if kK l0 = 0 then
      ob (By_add l0 (w32 (r18 + l2)) h) (fun r23 =>
        some (.inl (w32 (l3 + 1), r23)))
      else none)
  else none
def By_takeFrom (l0 l1 l2 : Int) (h : Hp) : Option (Hp) :=
  if kK l0 = 0 then
  let h_1 := hput h l0 1 0
  ob (loopN (fun q => By_takeFrom_L7 l0 l1 l2 q.1 q.2) LN (0, h_1)) (fun e32 =>
    some e32)
  else none
def By_isLike_j49 (l0 l1 l3 s0 : Int) (h : Hp) : Option ((Int × Int) ⊕ (Int)) :=
  some (.inl (s0, w32 (l3 + 1)))
def By_isLike_L19 (l0 l1 : Int) (h : Hp) (l2 l3 : Int) : Option ((Int × Int) ⊕ (Int)) :=
  if kK l0 = 0 then
  if h l0 1 ≤ l3 then
    some (.inr l2)
  else
    if l2 = 0 then
      some (.inr l2)
    else
      ob (By_at l0 l3 h) (fun r33 =>
        if kK l1 = 0 then
        ob (By_at l1 l3 h) (fun r38 =>
          By_isLike_j49 l0 l1 l3 ((if r33 = r38 then 1 else 0)) h)
        else none)
  else none
def By_isLike_j16 (l0 l1 s0 : Int) (h : Hp) : Option (Int) :=
  ob (loopN (fun q => By_isLike_L19 l0 l1 h q.1 q.2) LN (s0, 0)) (fun e56 =>
    if e56 = 0 ∨ e56 = 1 then
    some e56
    else none)
def By_isLike (l0 l1 : Int) (h : Hp) : Option (Int) :=
  if kK l0 = 0 then
  if kK l1 = 0 then
  By_isLike_j16 l0 l1 ((if h l0 1 = h l1 1 then 1 else 0)) h
  else none
  else none
def By_afterBlanks_j36 (l0 l2 : Int) (h : Hp) : Option ((Int) ⊕ (Int)) :=
  some (.inl (w32 (l2 + 1)))
def By_afterBlanks_L2 (l0 : Int) (h : Hp) (l2 : Int) : Option ((Int) ⊕ (Int)) :=
  if l2 < 0 then
    some (.inr l2)
  else
    if kK l0 = 0 then
    if h l0 1 ≤ l2 then
      some (.inr l2)
    else
      if kK (h l0 0) = 20 ∧ 0 ≤ l2 ∧ l2 < kL (h l0 0) then
      if h (h l0 0) l2 = 32 then
        By_afterBlanks_j36 l0 l2 h
      else
        if h (h l0 0) l2 = 10 then
          By_afterBlanks_j36 l0 l2 h
        else
          some (.inr l2)
      else none
    else none
def By_afterBlanks (l0 l1 : Int) (h : Hp) : Option (Int) :=
  ob (loopN (fun q => By_afterBlanks_L2 l0 h q) LN l1) (fun e42 =>
    some e42)
def Ch_cell (l0 l1 l2 l3 : Int) : Option (Int) :=
  if 0 ≤ l1 ∧ l1 < 10 then
  if 0 ≤ l3 ∧ l3 < 9 then
  if 0 ≤ l2 ∧ l2 < 9 then
  some (w32 ((w32 ((w32 ((sJ l1) + (sQ l3))) + (sP l2))) + l0))
  else none
  else none
  else none
def Ch_row_j20 (s0 s1 : Int) (h : Hp) : Option (Int) :=
  some (w32 ((w32 (s1 + s0)) * 495))
def Ch_row (l0 l1 l2 : Int) (h : Hp) : Option (Int) :=
  if kK l0 = 1 then
  if kK (h l0 0) = 3 then
  if kK (h (h l0 0) 8) = 21 ∧ 0 ≤ l1 ∧ l1 < kL (h (h l0 0) 8) then
  Ch_row_j20 ((if h (h (h l0 0) 8) l1 = 0 then l2 else 1)) (w32 (2 * l1)) h
  else none
  else none
  else none
def Ch_value (l0 l1 l2 l3 l4 l5 l6 : Int) (h : Hp) : Option (Int) :=
  if l1 < 0 then
    some 0
  else
    if kK l0 = 1 then
    if kK (h l0 0) = 3 then
    if h (h l0 0) 1 ≤ l1 then
      some 0
    else
      if l3 < 0 then
        some 0
      else
        if l5 < l3 then
          some 0
        else
          if l6 < l5 then
            some 0
          else
            if l4 < l6 then
              some 0
            else
              if l4 ≤ h l0 1 then
                ob (Ch_row l0 l1 l2 h) (fun r57 =>
                  ob (Ch_cell l3 l4 l5 l6) (fun r67 =>
                    if kK (h l0 4) = 22 ∧ 0 ≤ w32 (r57 + r67) ∧ w32 (r57 + r67) < kL (h l0 4) then
                    some (h (h l0 4) (w32 (r57 + r67)))
                    else none))
              else
                some 0
    else none
    else none
