/-! the methods as plain functions, by program (wip/gen) -/
def By_room (l0 : Int) (h : Hp) : Option (Int) :=
  if kK l0 = 0 then
  if kK (h l0 0) = 20 then
  some (w32 ((kL (h l0 0)) - (h l0 1)))
  else none
  else none
def By_at (l0 l1 : Int) (h : Hp) : Option (Int) :=
  if l1 < 0 then
    some ((-1))
  else
    if kK l0 = 0 then
    if h l0 1 ≤ l1 then
      some ((-1))
    else
      if kK (h l0 0) = 20 then
      if l1 < kL (h l0 0) then
        if kK (h l0 0) = 20 ∧ (0 : Int) ≤ l1 ∧ l1 < kL (h l0 0) then
        some (i_and (h (h l0 0) l1) 255)
        else none
      else
        some ((-1))
      else none
    else none
def By_add (l0 l1 : Int) (h : Hp) : Option (Hp) :=
  if kK l0 = 0 then
  if h l0 1 < 0 then
    some h
  else
    if kK (h l0 0) = 20 then
    if kL (h l0 0) ≤ h l0 1 then
      some h
    else
      if kK (h l0 0) = 20 ∧ (0 : Int) ≤ h l0 1 ∧ h l0 1 < kL (h l0 0) then
      let h_1 := hput h (h l0 0) (h l0 1) (w8 (w8 l1))
      let h_2 := hput h_1 l0 1 (w32 ((h_1 l0 1) + 1))
      some h_2
      else none
    else none
  else none
def By_addFour (l0 l1 : Int) (h : Hp) : Option (Hp) :=
  if kK l0 = 0 then
  ob (By_add l0 (i_shr l1 24) h) (fun r5 =>
    ob (By_add l0 (i_shr l1 16) r5) (fun r13 =>
      ob (By_add l0 (i_shr l1 8) r13) (fun r21 =>
        ob (By_add l0 l1 r21) (fun r26 =>
          some r26))))
  else none
def By_addNumber_j17 (l0 l1 : Int) (h : Hp) : Option (Hp) :=
  if kK l0 = 0 then
  ob (By_add l0 (w32 (48 + (w32 (Int.tmod l1 10)))) h) (fun r25 =>
    some r25)
  else none
def By_addNumber (l0 l1 : Int) (h : Hp) : Option (Hp) :=
  if l1 < 10 then
    By_addNumber_j17 l0 l1 h
  else
    if kK l0 = 0 then
    ob (By_add l0 (w32 (48 + (w32 (Int.tdiv l1 10)))) h) (fun r14 =>
      By_addNumber_j17 l0 l1 r14)
    else none
def By_takeFrom_L7 (l0 l1 l2 : Int) (l3 : Int) (h : Hp) : Option ((Int × Hp) ⊕ (Hp)) :=
  if kK l1 = 0 then
  if h l1 1 ≤ l3 then
    some (.inr h)
  else
    ob (By_at l1 l3 h) (fun r18 =>
      if kK l0 = 0 then
      ob (By_add l0 (w32 (r18 + l2)) h) (fun r23 =>
        some (.inl (w32 (l3 + 1), r23)))
      else none)
  else none
def By_takeFrom (l0 l1 l2 : Int) (h : Hp) : Option (Hp) :=
  if kK l0 = 0 then
  let h_1 := hput h l0 1 0
  ob (loopN (fun q => By_takeFrom_L7 l0 l1 l2 q.1 q.2) LN (0, h_1)) (fun e32 =>
    some e32)
  else none
def By_isLike_j49 (l0 l1 l3 s0 : Int) (h : Hp) : Option ((Int × Int) ⊕ (Int)) :=
  some (.inl (s0, w32 (l3 + 1)))
def By_isLike_L19 (l0 l1 : Int) (h : Hp) (l2 l3 : Int) : Option ((Int × Int) ⊕ (Int)) :=
  if kK l0 = 0 then
  if h l0 1 ≤ l3 then
    some (.inr l2)
  else
    if l2 = 0 then
      some (.inr l2)
    else
      ob (By_at l0 l3 h) (fun r33 =>
        if kK l1 = 0 then
        ob (By_at l1 l3 h) (fun r38 =>
          By_isLike_j49 l0 l1 l3 ((if r33 = r38 then 1 else 0)) h)
        else none)
  else none
def By_isLike_j16 (l0 l1 s0 : Int) (h : Hp) : Option (Int) :=
  ob (loopN (fun q => By_isLike_L19 l0 l1 h q.1 q.2) LN (s0, 0)) (fun e56 =>
    if e56 = 0 ∨ e56 = 1 then
    some e56
    else none)
def By_isLike (l0 l1 : Int) (h : Hp) : Option (Int) :=
  if kK l0 = 0 then
  if kK l1 = 0 then
  By_isLike_j16 l0 l1 ((if h l0 1 = h l1 1 then 1 else 0)) h
  else none
  else none
def By_afterBlanks_j36 (l0 l2 : Int) (h : Hp) : Option ((Int) ⊕ (Int)) :=
  some (.inl (w32 (l2 + 1)))
def By_afterBlanks_L2 (l0 : Int) (h : Hp) (l2 : Int) : Option ((Int) ⊕ (Int)) :=
  if l2 < 0 then
    some (.inr l2)
  else
    if kK l0 = 0 then
    if h l0 1 ≤ l2 then
      some (.inr l2)
    else
      if kK (h l0 0) = 20 ∧ (0 : Int) ≤ l2 ∧ l2 < kL (h l0 0) then
      if h (h l0 0) l2 = 32 then
        By_afterBlanks_j36 l0 l2 h
      else
        if h (h l0 0) l2 = 10 then
          By_afterBlanks_j36 l0 l2 h
        else
          some (.inr l2)
      else none
    else none
def By_afterBlanks (l0 l1 : Int) (h : Hp) : Option (Int) :=
  ob (loopN (fun q => By_afterBlanks_L2 l0 h q) LN l1) (fun e42 =>
    some e42)
def Ch_cell (l0 l1 l2 l3 : Int) : Option (Int) :=
  if (0 : Int) ≤ l1 ∧ l1 < 10 then
  if (0 : Int) ≤ l3 ∧ l3 < 9 then
  if (0 : Int) ≤ l2 ∧ l2 < 9 then
  some (w32 ((w32 ((w32 ((sJ l1) + (sQ l3))) + (sP l2))) + l0))
  else none
  else none
  else none
def Ch_row_j20 (s0 s1 : Int) (h : Hp) : Option (Int) :=
  some (w32 ((w32 (s1 + s0)) * 495))
def Ch_row (l0 l1 l2 : Int) (h : Hp) : Option (Int) :=
  if kK l0 = 1 then
  if kK (h l0 0) = 3 then
  if kK (h (h l0 0) 8) = 21 ∧ (0 : Int) ≤ l1 ∧ l1 < kL (h (h l0 0) 8) then
  Ch_row_j20 ((if h (h (h l0 0) 8) l1 = 0 then l2 else 1)) (w32 (2 * l1)) h
  else none
  else none
  else none
def Ch_value (l0 l1 l2 l3 l4 l5 l6 : Int) (h : Hp) : Option (Int) :=
  if l1 < 0 then
    some 0
  else
    if kK l0 = 1 then
    if kK (h l0 0) = 3 then
    if h (h l0 0) 1 ≤ l1 then
      some 0
    else
      if l3 < 0 then
        some 0
      else
        if l5 < l3 then
          some 0
        else
          if l6 < l5 then
            some 0
          else
            if l4 < l6 then
              some 0
            else
              if l4 ≤ h l0 1 then
                ob (Ch_row l0 l1 l2 h) (fun r57 =>
                  ob (Ch_cell l3 l4 l5 l6) (fun r67 =>
                    if kK (h l0 4) = 22 ∧ (0 : Int) ≤ w32 (r57 + r67) ∧ w32 (r57 + r67) < kL (h l0 4) then
                    some (h (h l0 4) (w32 (r57 + r67)))
                    else none))
              else
                some 0
    else none
    else none
def JA_rangeCheck (l0 l1 l2 : Int) : Option (Unit) :=
  if l1 ≤ l2 then
    if 0 ≤ l1 then
      if l2 ≤ l0 then
        some ()
      else
        none
    else
      none
  else
    none
def JA_fillJR_L10 (l0 l2 l3 : Int) (l5 : Int) (h : Hp) : Option ((Int × Hp) ⊕ (Hp)) :=
  if l2 ≤ l5 then
    some (.inr h)
  else
    if kK l0 = 22 ∧ (0 : Int) ≤ l5 ∧ l5 < kL l0 then
    let h_1 := hput h l0 l5 l3
    some (.inl (w32 (l5 + 1), h_1))
    else none
def JA_fillJR (l0 l1 l2 l3 : Int) (h : Hp) : Option (Hp) :=
  if kK l0 = 22 then
  ob (JA_rangeCheck (kL l0) l1 l2) (fun r4 =>
    ob (loopN (fun q => JA_fillJR_L10 l0 l2 l3 q.1 q.2) LN (l1, h)) (fun e27 =>
      some e27))
  else none
def Ch_clear_L13 (l0 l1 : Int) (l2 : Int) (h : Hp) : Option ((Int × Hp) ⊕ (Hp)) :=
  if kK l0 = 1 then
  if kK (h l0 0) = 3 then
  if w32 (2 * (h (h l0 0) 1)) ≤ l2 then
    some (.inr h)
  else
    ob (JA_fillJR (h l0 4) (w32 (l2 * 495)) (w32 ((w32 (l2 * 495)) + l1)) 0 h) (fun r43 =>
      some (.inl (w32 (l2 + 1), r43)))
  else none
  else none
def Ch_clear_L54 (l0 l1 : Int) (l2 : Int) (h : Hp) : Option ((Int × Hp) ⊕ (Hp)) :=
  if kK l0 = 1 then
  if kK (h l0 0) = 3 then
  if h (h l0 0) 0 ≤ l2 then
    some (.inr h)
  else
    ob (JA_fillJR (h l0 5) (w32 (l2 * 495)) (w32 ((w32 (l2 * 495)) + l1)) 0 h) (fun r82 =>
      some (.inl (w32 (l2 + 1), r82)))
  else none
  else none
def Ch_clear (l0 : Int) (h : Hp) : Option (Hp) :=
  if kK l0 = 1 then
  if (0 : Int) ≤ w32 ((h l0 1) + 1) ∧ w32 ((h l0 1) + 1) < 10 then
  ob (loopN (fun q => Ch_clear_L13 l0 (sJ (w32 ((h l0 1) + 1))) q.1 q.2) LN (0, h)) (fun e52 =>
    ob (loopN (fun q => Ch_clear_L54 l0 (sJ (w32 ((h l0 1) + 1))) q.1 q.2) LN (0, e52)) (fun e91 =>
      some e91))
  else none
  else none
def JI_numberOfTrailingZeros_j74 (l0 l1 : Int) : Option (Int) :=
  some (w32 (l1 + (i_ushr l0 1)))
def JI_numberOfTrailingZeros_j62 (l0 l1 : Int) : Option (Int) :=
  if l0 ≤ 4 then
    JI_numberOfTrailingZeros_j74 l0 l1
  else
    JI_numberOfTrailingZeros_j74 (i_ushr l0 2) (w32 (l1 + 2))
def JI_numberOfTrailingZeros_j49 (l0 l1 : Int) : Option (Int) :=
  if l0 ≤ 16 then
    JI_numberOfTrailingZeros_j62 l0 l1
  else
    JI_numberOfTrailingZeros_j62 (i_ushr l0 4) (w32 (l1 + 4))
def JI_numberOfTrailingZeros_j34 (l0 l1 : Int) : Option (Int) :=
  if l0 ≤ 256 then
    JI_numberOfTrailingZeros_j49 l0 l1
  else
    JI_numberOfTrailingZeros_j49 (i_ushr l0 8) (w32 (l1 + 8))
def JI_numberOfTrailingZeros (l0 : Int) : Option (Int) :=
  if 0 < i_and (i_xor l0 ((-1))) (w32 (l0 - 1)) then
    if i_and (i_xor l0 ((-1))) (w32 (l0 - 1)) ≤ 65536 then
      JI_numberOfTrailingZeros_j34 (i_and (i_xor l0 ((-1))) (w32 (l0 - 1))) 1
    else
      JI_numberOfTrailingZeros_j34 (i_ushr (i_and (i_xor l0 ((-1))) (w32 (l0 - 1))) 16) (w32 (1 + 16))
  else
    some (i_and (i_and (i_xor l0 ((-1))) (w32 (l0 - 1))) 32)
def Ch_guestRow (l0 l1 : Int) (h : Hp) : Option (Int) :=
  if kK l0 = 1 then
  if kK (h l0 0) = 3 then
  if kK (h (h l0 0) 18) = 21 ∧ (0 : Int) ≤ l1 ∧ l1 < kL (h (h l0 0) 18) then
  if i_and (h (h (h l0 0) 18) l1) (i_xor (h l0 2) ((-1))) = 0 then
    some ((-1))
  else
    ob (JI_numberOfTrailingZeros (h (h (h l0 0) 18) l1)) (fun r26 =>
      some (w32 (r26 * 495)))
  else none
  else none
  else none
def Co_either (l0 l1 l3 : Int) : Option (Int) :=
  some ((if l1 ≤ w64 (1000000000000001 - l3) then w64 (l1 + l3) else 1000000000000001))
def Co_placed (l0 l1 l2 : Int) : Option (Int) :=
  some l2
def Ms_either (l0 l1 l3 : Int) : Option (Int) :=
  some (l_or l1 l3)
def Ms_placed (l0 l1 l2 : Int) : Option (Int) :=
  some l2
def Su_every (l0 : Int) : Option (Int) :=
  some (w32 (l_and (l_shr l0 8) 255))
def Su_fewest (l0 : Int) : Option (Int) :=
  some (w32 (l_and (l_shr l0 16) 255))
def Su_most (l0 : Int) : Option (Int) :=
  some (w32 (l_and (l_shr l0 24) 255))
def Su_packed (l0 l1 l2 l3 : Int) : Option (Int) :=
  some (l_or (l_or (l_or (l_or 4294967296 l0) (l_shl l1 8)) (l_shl l2 16)) (l_shl l3 24))
def Su_some (l0 : Int) : Option (Int) :=
  some (w32 (l_and l0 255))
def Su_either_j12 (l1 l3 : Int) : Option (Int) :=
  some (l_or l1 l3)
def Su_either (l0 l1 l3 : Int) : Option (Int) :=
  if l1 = 0 then
    Su_either_j12 l1 l3
  else
    if l3 = 0 then
      Su_either_j12 l1 l3
    else
      ob (Su_some l1) (fun r17 =>
        ob (Su_some l3) (fun r21 =>
          ob (Su_every l1) (fun r26 =>
            ob (Su_every l3) (fun r30 =>
              ob (Su_fewest l1) (fun r35 =>
                ob (Su_fewest l3) (fun r39 =>
                  ob (Su_most l1) (fun r46 =>
                    ob (Su_most l3) (fun r50 =>
                      ob (Su_packed (i_or r17 r21) (i_and r26 r30) (min r35 r39) (max r46 r50)) (fun r56 =>
                        some r56)))))))))
def Su_placed (l0 l1 l2 : Int) : Option (Int) :=
  some ((if l2 = 0 then 0 else w64 ((l_or (l_or l2 (l_shl 1 l1)) (l_shl 1 (w32 (l1 + 8)))) + 16842752)))
def Al_placed (l0 l1 l2 : Int) (h : Hp) : Option Int :=
  if kK l0 = 2 then Co_placed l0 l1 l2 else if kK l0 = 7 then Su_placed l0 l1 l2 else if kK l0 = 5 then Ms_placed l0 l1 l2 else none
def Al_either (l0 l1 l3 : Int) (h : Hp) : Option Int :=
  if kK l0 = 2 then Co_either l0 l1 l3 else if kK l0 = 7 then Su_either l0 l1 l3 else if kK l0 = 5 then Ms_either l0 l1 l3 else none
def Ch_addGuest (l0 l1 l2 l3 : Int) (h : Hp) : Option (Hp) :=
  if kK l0 = 1 then
  if kK (h l0 0) = 3 then
  if kK (h (h l0 0) 9) = 21 ∧ (0 : Int) ≤ l1 ∧ l1 < kL (h (h l0 0) 9) then
  ob (Ch_guestRow l0 (h (h (h l0 0) 9) l1) h) (fun r10 =>
    if r10 = (-1) then
      some h
    else
      if kK (h (h l0 0) 7) = 21 ∧ (0 : Int) ≤ l1 ∧ l1 < kL (h (h l0 0) 7) then
      ob (Al_placed (h l0 3) (h (h (h l0 0) 7) l1) l3 h) (fun r35 =>
        if kK (h l0 5) = 22 ∧ (0 : Int) ≤ w32 (r10 + l2) ∧ w32 (r10 + l2) < kL (h l0 5) then
        ob (Al_either (h l0 3) (h (h l0 5) (w32 (r10 + l2))) r35 h) (fun r63 =>
          let h_1 := hput h (h l0 5) (w32 (r10 + l2)) r63
          some h_1)
        else none)
      else none)
  else none
  else none
  else none
def Co_both (l0 l1 l3 : Int) : Option (Int) :=
  if l1 ≤ 0 then
    some 0
  else
    if 0 < l3 then
      if l3 ≠ 0 then
      some ((if l1 ≤ w64 (Int.tdiv 1000000000000001 l3) then w64 (l1 * l3) else 1000000000000001))
      else none
    else
      some 0
def Ms_both (l0 l1 l3 : Int) : Option (Int) :=
  some (l_and l1 l3)
def Su_both (l0 l1 l3 : Int) : Option (Int) :=
  if l1 = 0 then
    some 0
  else
    if l3 = 0 then
      some 0
    else
      ob (Su_some l1) (fun r15 =>
        ob (Su_some l3) (fun r19 =>
          ob (Su_every l1) (fun r24 =>
            ob (Su_every l3) (fun r28 =>
              ob (Su_fewest l1) (fun r33 =>
                ob (Su_fewest l3) (fun r37 =>
                  ob (Su_most l1) (fun r42 =>
                    ob (Su_most l3) (fun r46 =>
                      ob (Su_packed (i_or r15 r19) (i_or r24 r28) (w32 (r33 + r37)) (w32 (r42 + r46))) (fun r50 =>
                        some r50)))))))))
def Al_both (l0 l1 l3 : Int) (h : Hp) : Option Int :=
  if kK l0 = 2 then Co_both l0 l1 l3 else if kK l0 = 7 then Su_both l0 l1 l3 else if kK l0 = 5 then Ms_both l0 l1 l3 else none
def Ch_waysAbove_j226 (l0 l2 l3 l4 l5 l6 l7 l9 l10 l11 l12 : Int) (h : Hp) : Option ((Int × Int) ⊕ (Int)) :=
  some (.inl (l7, w32 (l12 + 1)))
def Ch_waysAbove_j224 (l0 l2 l3 l4 l5 l6 l9 l10 l11 l12 s0 : Int) (h : Hp) : Option ((Int × Int) ⊕ (Int)) :=
  Ch_waysAbove_j226 l0 l2 l3 l4 l5 l6 s0 l9 l10 l11 l12 h
def Ch_waysAbove_j162 (l0 l2 l3 l4 l5 l6 l7 l9 l10 l11 l12 s0 s1 s2 : Int) (h : Hp) : Option ((Int × Int) ⊕ (Int)) :=
  if kK s2 = 22 ∧ (0 : Int) ≤ w32 (s1 + s0) ∧ w32 (s1 + s0) < kL s2 then
  if h s2 (w32 (s1 + s0)) = 0 then
    Ch_waysAbove_j226 l0 l2 l3 l4 l5 l6 l7 l9 l10 l11 l12 h
  else
    if kK l0 = 1 then
    ob (Ch_cell l2 l3 l11 l12) (fun r185 =>
      if kK (h l0 5) = 22 ∧ (0 : Int) ≤ w32 (l9 + r185) ∧ w32 (l9 + r185) < kL (h l0 5) then
      if h (h l0 5) (w32 (l9 + r185)) = 0 then
        Ch_waysAbove_j224 l0 l2 l3 l4 l5 l6 l9 l10 l11 l12 l7 h
      else
        ob (Al_both (h l0 3) (h (h l0 5) (w32 (l9 + r185))) (h s2 (w32 (s1 + s0))) h) (fun r218 =>
          ob (Al_either (h l0 3) l7 r218 h) (fun r221 =>
            Ch_waysAbove_j224 l0 l2 l3 l4 l5 l6 l9 l10 l11 l12 r221 h))
      else none)
    else none
  else none
def Ch_waysAbove_L120 (l0 l2 l3 l4 l5 l6 l9 l10 l11 : Int) (h : Hp) (l7 l12 : Int) : Option ((Int × Int) ⊕ (Int)) :=
  if l3 < l12 then
    some (.inr l7)
  else
    if kK l0 = 1 then
    if l10 = 0 then
      ob (Ch_cell l11 l12 l12 l12) (fun r159 =>
        Ch_waysAbove_j162 l0 l2 l3 l4 l5 l6 l7 l9 l10 l11 l12 r159 l6 (h l0 4) h)
    else
      ob (Ch_cell l11 l12 l4 l5) (fun r145 =>
        Ch_waysAbove_j162 l0 l2 l3 l4 l5 l6 l7 l9 l10 l11 l12 r145 l6 (h l0 4) h)
    else none
def Ch_waysAbove_j118 (l0 l2 l3 l4 l5 l6 l7 l9 l10 l11 s0 : Int) (h : Hp) : Option ((Int × Int) ⊕ (Int)) :=
  ob (loopN (fun q => Ch_waysAbove_L120 l0 l2 l3 l4 l5 l6 l9 l10 l11 h q.1 q.2) LN (l7, s0)) (fun e232 =>
    some (.inl (e232, w32 (l11 + 1))))
def Ch_waysAbove_L99 (l0 l2 l3 l4 l5 l6 l9 l10 : Int) (h : Hp) (l7 l11 : Int) : Option ((Int × Int) ⊕ (Int)) :=
  if l4 < l11 then
    some (.inr l7)
  else
    Ch_waysAbove_j118 l0 l2 l3 l4 l5 l6 l7 l9 l10 l11 ((if l10 = 0 then l11 else l5)) h
def Ch_waysAbove_j74 (l0 l1 l2 l3 l4 l5 l6 l7 s0 : Int) (h : Hp) : Option (Int) :=
  if s0 = (-1) then
    some l7
  else
    if kK l0 = 1 then
    if kK (h l0 0) = 3 then
    if kK (h (h l0 0) 15) = 23 ∧ (0 : Int) ≤ l1 ∧ l1 < kL (h (h l0 0) 15) then
    ob (loopN (fun q => Ch_waysAbove_L99 l0 l2 l3 l4 l5 l6 s0 (h (h (h l0 0) 15) l1) h q.1 q.2) LN (l7, l2)) (fun e238 =>
      some e238)
    else none
    else none
    else none
def Ch_waysAbove_j42 (l0 l1 l2 l3 l4 l5 l6 s0 : Int) (h : Hp) : Option (Int) :=
  if kK l0 = 1 then
  if kK (h l0 0) = 3 then
  if kK (h (h l0 0) 10) = 21 ∧ (0 : Int) ≤ l1 ∧ l1 < kL (h (h l0 0) 10) then
  if h (h (h l0 0) 10) l1 = 1 then
    Ch_waysAbove_j74 l0 l1 l2 l3 l4 l5 l6 s0 ((-1)) h
  else
    if kK (h (h l0 0) 9) = 21 ∧ (0 : Int) ≤ l1 ∧ l1 < kL (h (h l0 0) 9) then
    ob (Ch_guestRow l0 (h (h (h l0 0) 9) l1) h) (fun r71 =>
      Ch_waysAbove_j74 l0 l1 l2 l3 l4 l5 l6 s0 r71 h)
    else none
  else none
  else none
  else none
def Ch_waysAbove (l0 l1 l2 l3 l4 l5 : Int) (h : Hp) : Option (Int) :=
  if kK l0 = 1 then
  ob (Ch_row l0 l1 0 h) (fun r3 =>
    if kK (h l0 0) = 3 then
    if kK (h (h l0 0) 10) = 21 ∧ (0 : Int) ≤ l1 ∧ l1 < kL (h (h l0 0) 10) then
    if h (h (h l0 0) 10) l1 = 2 then
      Ch_waysAbove_j42 l0 l1 l2 l3 l4 l5 r3 0 h
    else
      ob (Ch_cell l2 l3 l4 l5) (fun r37 =>
        if kK (h l0 4) = 22 ∧ (0 : Int) ≤ w32 (r3 + r37) ∧ w32 (r3 + r37) < kL (h l0 4) then
        Ch_waysAbove_j42 l0 l1 l2 l3 l4 l5 r3 (h (h l0 4) (w32 (r3 + r37))) h
        else none)
    else none
    else none)
  else none
def Ch_waysBelow_j205 (l0 l2 l3 l4 l5 l6 l7 l8 l9 l11 l12 : Int) (h : Hp) : Option ((Int × Int) ⊕ (Int)) :=
  some (.inl (l9, w32 (l12 + 1)))
def Ch_waysBelow_j203 (l0 l2 l3 l4 l5 l6 l7 l8 l11 l12 s0 : Int) (h : Hp) : Option ((Int × Int) ⊕ (Int)) :=
  Ch_waysBelow_j205 l0 l2 l3 l4 l5 l6 l7 l8 s0 l11 l12 h
def Ch_waysBelow_j169 (l0 l2 l3 l4 l5 l6 l7 l8 l9 l11 l12 l13 s0 : Int) (h : Hp) : Option ((Int × Int) ⊕ (Int)) :=
  if s0 = 0 then
    Ch_waysBelow_j203 l0 l2 l3 l4 l5 l6 l7 l8 l11 l12 l9 h
  else
    if kK l0 = 1 then
    ob (Al_both (h l0 3) l13 s0 h) (fun r197 =>
      ob (Al_either (h l0 3) l9 r197 h) (fun r200 =>
        Ch_waysBelow_j203 l0 l2 l3 l4 l5 l6 l7 l8 l11 l12 r200 h))
    else none
def Ch_waysBelow_j126 (l0 l2 l3 l4 l5 l6 l7 l8 l9 l11 l12 s0 : Int) (h : Hp) : Option ((Int × Int) ⊕ (Int)) :=
  if s0 = 0 then
    Ch_waysBelow_j205 l0 l2 l3 l4 l5 l6 l7 l8 l9 l11 l12 h
  else
    if l8 = 0 then
      if kK l0 = 1 then
      ob (Ch_value l0 l7 1 l12 l3 l4 l5 h) (fun r166 =>
        Ch_waysBelow_j169 l0 l2 l3 l4 l5 l6 l7 l8 l9 l11 l12 s0 r166 h)
      else none
    else
      if kK l0 = 1 then
      ob (Ch_value l0 l7 1 l12 l3 l3 l3 h) (fun r149 =>
        Ch_waysBelow_j169 l0 l2 l3 l4 l5 l6 l7 l8 l9 l11 l12 s0 r149 h)
      else none
def Ch_waysBelow_L83 (l0 l2 l3 l4 l5 l6 l7 l8 l11 : Int) (h : Hp) (l9 l12 : Int) : Option ((Int × Int) ⊕ (Int)) :=
  if l11 < l12 then
    some (.inr l9)
  else
    if l8 = 0 then
      if kK l0 = 1 then
      ob (Ch_value l0 l6 1 l2 l12 l12 l12 h) (fun r123 =>
        Ch_waysBelow_j126 l0 l2 l3 l4 l5 l6 l7 l8 l9 l11 l12 r123 h)
      else none
    else
      if kK l0 = 1 then
      ob (Ch_value l0 l6 1 l2 l12 l4 l5 h) (fun r106 =>
        Ch_waysBelow_j126 l0 l2 l3 l4 l5 l6 l7 l8 l9 l11 l12 r106 h)
      else none
def Ch_waysBelow_j81 (l0 l2 l3 l4 l5 l6 l7 l8 l9 l11 s0 : Int) (h : Hp) : Option (Int) :=
  ob (loopN (fun q => Ch_waysBelow_L83 l0 l2 l3 l4 l5 l6 l7 l8 l11 h q.1 q.2) LN (l9, s0)) (fun e211 =>
    some e211)
def Ch_waysBelow_j68 (l0 l2 l3 l4 l5 l6 l7 l8 l9 s0 : Int) (h : Hp) : Option (Int) :=
  Ch_waysBelow_j81 l0 l2 l3 l4 l5 l6 l7 l8 l9 s0 ((if l8 = 0 then l2 else l5)) h
def Ch_waysBelow (l0 l1 l2 l3 l4 l5 : Int) (h : Hp) : Option (Int) :=
  if kK l0 = 1 then
  if kK (h l0 0) = 3 then
  if kK (h (h l0 0) 11) = 21 ∧ (0 : Int) ≤ l1 ∧ l1 < kL (h (h l0 0) 11) then
  if kK (h (h l0 0) 12) = 21 ∧ (0 : Int) ≤ l1 ∧ l1 < kL (h (h l0 0) 12) then
  if h (h (h l0 0) 12) l1 = (-1) then
    ob (Ch_value l0 (h (h (h l0 0) 11) l1) 1 l2 l3 l4 l5 h) (fun r38 =>
      some r38)
  else
    if kK (h (h l0 0) 15) = 23 ∧ (0 : Int) ≤ h (h (h l0 0) 11) l1 ∧ h (h (h l0 0) 11) l1 < kL (h (h l0 0) 15) then
    Ch_waysBelow_j68 l0 l2 l3 l4 l5 (h (h (h l0 0) 11) l1) (h (h (h l0 0) 12) l1) (h (h (h l0 0) 15) (h (h (h l0 0) 11) l1)) 0 ((if h (h (h l0 0) 15) (h (h (h l0 0) 11) l1) = 0 then l4 else l3)) h
    else none
  else none
  else none
  else none
  else none
def Ch_fillBranch_j219 (l0 l1 l2 l3 l4 l5 l6 l7 l8 l9 : Int) (h : Hp) : Option ((Int × Hp) ⊕ (Hp)) :=
  some (.inl (w32 (l9 + 1), h))
def Ch_fillBranch_L108 (l0 l1 l2 l3 l4 l5 l6 l7 l8 : Int) (l9 : Int) (h : Hp) : Option ((Int × Hp) ⊕ (Hp)) :=
  if l7 < w32 (l9 + l8) then
    some (.inr h)
  else
    ob (Ch_cell l5 l7 l9 (w32 (l9 + l8))) (fun r129 =>
      if kK l0 = 1 then
      ob (Ch_row l0 l1 0 h) (fun r141 =>
        ob (Ch_waysBelow l0 l1 l5 l7 l9 (w32 (l9 + l8)) h) (fun r160 =>
          if kK (h l0 4) = 22 ∧ (0 : Int) ≤ w32 (r141 + r129) ∧ w32 (r141 + r129) < kL (h l0 4) then
          let h_1 := hput h (h l0 4) (w32 (r141 + r129)) r160
          ob (Ch_waysAbove l0 l1 l5 l7 l9 (w32 (l9 + l8)) h_1) (fun r177 =>
            ob (Ch_row l0 l1 1 h_1) (fun r189 =>
              if kK (h_1 l0 4) = 22 ∧ (0 : Int) ≤ w32 (r189 + r129) ∧ w32 (r189 + r129) < kL (h_1 l0 4) then
              let h_2 := hput h_1 (h_1 l0 4) (w32 (r189 + r129)) r177
              if l4 = 0 then
                Ch_fillBranch_j219 l0 l1 l2 l3 l4 l5 l6 l7 l8 l9 h_2
              else
                if r177 = 0 then
                  Ch_fillBranch_j219 l0 l1 l2 l3 l4 l5 l6 l7 l8 l9 h_2
                else
                  ob (Ch_addGuest l0 l1 r129 r177 h_2) (fun r216 =>
                    Ch_fillBranch_j219 l0 l1 l2 l3 l4 l5 l6 l7 l8 l9 r216)
              else none))
          else none))
      else none)
def Ch_fillBranch_j106 (l0 l1 l2 l3 l4 l5 l6 l7 l8 s0 : Int) (h : Hp) : Option ((Int × Hp) ⊕ (Hp)) :=
  ob (loopN (fun q => Ch_fillBranch_L108 l0 l1 l2 l3 l4 l5 l6 l7 l8 q.1 q.2) LN (s0, h)) (fun e225 =>
    some (.inl (w32 (l7 + 1), e225)))
def Ch_fillBranch_j93 (l0 l1 l2 l3 l4 l5 l6 l7 s0 : Int) (h : Hp) : Option ((Int × Hp) ⊕ (Hp)) :=
  Ch_fillBranch_j106 l0 l1 l2 l3 l4 l5 l6 l7 s0 ((if l3 = 0 then l7 else l5)) h
def Ch_fillBranch_L71 (l0 l1 l2 l3 l4 l5 l6 : Int) (l7 : Int) (h : Hp) : Option ((Int × Hp) ⊕ (Hp)) :=
  if l6 < l7 then
    some (.inr h)
  else
    Ch_fillBranch_j93 l0 l1 l2 l3 l4 l5 l6 l7 ((if l3 = 0 then 0 else w32 ((w32 (l7 - l5)) - l2))) h
def Ch_fillBranch_j63 (l0 l1 l2 l3 l4 l5 s0 : Int) (h : Hp) : Option ((Int × Hp) ⊕ (Hp)) :=
  ob (loopN (fun q => Ch_fillBranch_L71 l0 l1 l2 l3 l4 l5 s0 q.1 q.2) LN (w32 (l5 + l2), h)) (fun e231 =>
    some (.inl (w32 (l5 + 1), e231)))
def Ch_fillBranch_L37 (l0 l1 l2 l3 l4 : Int) (l5 : Int) (h : Hp) : Option ((Int × Hp) ⊕ (Hp)) :=
  if kK l0 = 1 then
  if h l0 1 < w32 (l5 + l2) then
    some (.inr h)
  else
    Ch_fillBranch_j63 l0 l1 l2 l3 l4 l5 ((if l3 = 0 then w32 (l5 + l2) else h l0 1)) h
  else none
def Ch_fillBranch_j32 (l0 l1 l2 l3 s0 : Int) (h : Hp) : Option (Hp) :=
  ob (loopN (fun q => Ch_fillBranch_L37 l0 l1 l2 l3 s0 q.1 q.2) LN (0, h)) (fun e237 =>
    some e237)
def Ch_fillBranch_j31 (l0 l1 l2 l3 : Int) (h : Hp) : Option (Hp) :=
  Ch_fillBranch_j32 l0 l1 l2 l3 0 h
def Ch_fillBranch (l0 l1 l2 : Int) (h : Hp) : Option (Hp) :=
  if kK l0 = 1 then
  if kK (h l0 0) = 3 then
  if kK (h (h l0 0) 15) = 23 ∧ (0 : Int) ≤ l1 ∧ l1 < kL (h (h l0 0) 15) then
  if h (h (h l0 0) 15) l1 = 0 then
    Ch_fillBranch_j31 l0 l1 l2 (h (h (h l0 0) 15) l1) h
  else
    if kK (h (h l0 0) 13) = 21 ∧ (0 : Int) ≤ l1 ∧ l1 < kL (h (h l0 0) 13) then
    if h (h (h l0 0) 13) l1 = (-1) then
      Ch_fillBranch_j32 l0 l1 l2 (h (h (h l0 0) 15) l1) 1 h
    else
      Ch_fillBranch_j31 l0 l1 l2 (h (h (h l0 0) 15) l1) h
    else none
  else none
  else none
  else none
def Ch_hostsOver_j83 (l0 l1 l2 l3 l4 l6 : Int) (h : Hp) : Option ((Int × Int) ⊕ (Int)) :=
  some (.inl (l4, w32 (l6 + 1)))
def Ch_hostsOver_j81 (l0 l1 l2 l3 l6 s0 : Int) (h : Hp) : Option ((Int × Int) ⊕ (Int)) :=
  Ch_hostsOver_j83 l0 l1 l2 l3 s0 l6 h
def Ch_hostsOver_L6 (l0 l1 l2 l3 : Int) (h : Hp) (l4 l6 : Int) : Option ((Int × Int) ⊕ (Int)) :=
  if kK l0 = 1 then
  if kK (h l0 0) = 3 then
  if h (h l0 0) 0 ≤ l6 then
    some (.inr l4)
  else
    if i_and (i_shr l1 l6) 1 = 1 then
      if kK (h (h l0 0) 6) = 21 ∧ (0 : Int) ≤ l6 ∧ l6 < kL (h (h l0 0) 6) then
      ob (Ch_value l0 (h (h (h l0 0) 6) l6) 1 l2 l3 l3 l3 h) (fun r44 =>
        if r44 = 0 then
          Ch_hostsOver_j81 l0 l1 l2 l3 l6 l4 h
        else
          ob (Al_placed (h l0 3) l6 r44 h) (fun r75 =>
            ob (Al_either (h l0 3) l4 r75 h) (fun r78 =>
              Ch_hostsOver_j81 l0 l1 l2 l3 l6 r78 h)))
      else none
    else
      Ch_hostsOver_j83 l0 l1 l2 l3 l4 l6 h
  else none
  else none
def Ch_hostsOver (l0 l1 l2 l3 : Int) (h : Hp) : Option (Int) :=
  ob (loopN (fun q => Ch_hostsOver_L6 l0 l1 l2 l3 h q.1 q.2) LN (0, 0)) (fun e89 =>
    some e89)
def Ch_fillPlace_L29 (l0 l2 l3 l4 : Int) (l5 : Int) (h : Hp) : Option ((Int × Hp) ⊕ (Hp)) :=
  if kK l0 = 1 then
  if h l0 1 < w32 (l5 + l2) then
    some (.inr h)
  else
    ob (Ch_cell l5 (w32 (l5 + l2)) (w32 (l5 + l2)) (w32 (l5 + l2))) (fun r59 =>
      ob (Ch_hostsOver l0 l4 l5 (w32 (l5 + l2)) h) (fun r70 =>
        if kK (h l0 4) = 22 ∧ (0 : Int) ≤ w32 (l3 + r59) ∧ w32 (l3 + r59) < kL (h l0 4) then
        let h_1 := hput h (h l0 4) (w32 (l3 + r59)) r70
        some (.inl (w32 (l5 + 1), h_1))
        else none))
  else none
def Ch_fillPlace (l0 l1 l2 : Int) (h : Hp) : Option (Hp) :=
  if kK l0 = 1 then
  ob (Ch_row l0 l1 1 h) (fun r3 =>
    if kK (h l0 0) = 3 then
    if kK (h (h l0 0) 9) = 21 ∧ (0 : Int) ≤ l1 ∧ l1 < kL (h (h l0 0) 9) then
    if kK (h (h l0 0) 17) = 21 ∧ (0 : Int) ≤ h (h (h l0 0) 9) l1 ∧ h (h (h l0 0) 9) l1 < kL (h (h l0 0) 17) then
    ob (loopN (fun q => Ch_fillPlace_L29 l0 l2 r3 (h (h (h l0 0) 17) (h (h (h l0 0) 9) l1)) q.1 q.2) LN (0, h)) (fun e80 =>
      some e80)
    else none
    else none
    else none)
  else none
def Co_letterAt (l0 l1 l2 : Int) (h : Hp) : Option (Int) :=
  if kK l0 = 2 then
  if kK (h l0 0) = 0 then
  ob (By_at (h l0 0) l1 h) (fun r5 =>
    some ((if r5 = l2 then 1 else 0)))
  else none
  else none
def Co_one (l0 : Int) : Option (Int) :=
  some 1
def Ms_letterAt (l0 l1 l2 : Int) (h : Hp) : Option (Int) :=
  if w32 ((w32 (l1 * 26)) + l2) < 0 then
    some 0
  else
    if kK l0 = 5 then
    if kK (h l0 2) = 22 then
    if w32 ((w32 (l1 * 26)) + l2) < kL (h l0 2) then
      if kK (h l0 2) = 22 ∧ (0 : Int) ≤ w32 ((w32 (l1 * 26)) + l2) ∧ w32 ((w32 (l1 * 26)) + l2) < kL (h l0 2) then
      some (h (h l0 2) (w32 ((w32 (l1 * 26)) + l2)))
      else none
    else
      some 0
    else none
    else none
def Ms_one (l0 : Int) (h : Hp) : Option (Int) :=
  if kK l0 = 5 then
  some ((if h l0 0 < 64 then w64 ((l_shl 1 (h l0 0)) - 1) else (-1)))
  else none
def Su_letterAt (l0 l1 l2 : Int) (h : Hp) : Option (Int) :=
  if kK l0 = 7 then
  if kK (h l0 0) = 0 then
  ob (By_at (h l0 0) l1 h) (fun r5 =>
    some ((if r5 = l2 then 4294967296 else 0)))
  else none
  else none
def Su_one (l0 : Int) : Option (Int) :=
  some 4294967296
def Al_letterAt (l0 l1 l2 : Int) (h : Hp) : Option Int :=
  if kK l0 = 2 then Co_letterAt l0 l1 l2 h else if kK l0 = 7 then Su_letterAt l0 l1 l2 h else if kK l0 = 5 then Ms_letterAt l0 l1 l2 h else none
def Al_one (l0 : Int) (h : Hp) : Option Int :=
  if kK l0 = 2 then Co_one l0 else if kK l0 = 7 then Su_one l0 else if kK l0 = 5 then Ms_one l0 h else none
def Ch_fillSign_j158 (l0 l1 l2 l3 : Int) (h : Hp) : Option ((Int × Hp) ⊕ (Hp)) :=
  some (.inl (w32 (l3 + 1), h))
def Ch_fillSign_L70 (l0 l1 l2 l3 : Int) (l4 : Int) (h : Hp) : Option ((Int × Hp) ⊕ (Hp)) :=
  if kK l0 = 1 then
  if h l0 1 < l4 then
    some (.inr h)
  else
    ob (Ch_cell l3 l4 l3 l4) (fun r90 =>
      ob (Al_one (h l0 3) h) (fun r98 =>
        if kK (h l0 4) = 22 ∧ (0 : Int) ≤ w32 (l2 + r90) ∧ w32 (l2 + r90) < kL (h l0 4) then
        let h_2 := hput h (h l0 4) (w32 (l2 + r90)) r98
        some (.inl (w32 (l4 + 1), h_2))
        else none))
  else none
def Ch_fillSign_L9 (l0 l1 l2 : Int) (l3 : Int) (h : Hp) : Option ((Int × Hp) ⊕ (Hp)) :=
  if kK l0 = 1 then
  if h l0 1 < l3 then
    some (.inr h)
  else
    if kK (h l0 0) = 3 then
    if kK (h (h l0 0) 8) = 21 ∧ (0 : Int) ≤ l1 ∧ l1 < kL (h (h l0 0) 8) then
    if h (h (h l0 0) 8) l1 = 2 then
      ob (Ch_cell l3 l3 l3 l3) (fun r39 =>
        ob (Al_one (h l0 3) h) (fun r47 =>
          if kK (h l0 4) = 22 ∧ (0 : Int) ≤ w32 (l2 + r39) ∧ w32 (l2 + r39) < kL (h l0 4) then
          let h_3 := hput h (h l0 4) (w32 (l2 + r39)) r47
          Ch_fillSign_j158 l0 l1 l2 l3 h_3
          else none))
    else
      if h (h (h l0 0) 8) l1 = 3 then
        ob (loopN (fun q => Ch_fillSign_L70 l0 l1 l2 l3 q.1 q.2) LN (l3, h)) (fun e108 =>
          Ch_fillSign_j158 l0 l1 l2 l3 e108)
      else
        if h l0 1 ≤ l3 then
          Ch_fillSign_j158 l0 l1 l2 l3 h
        else
          ob (Ch_cell l3 (w32 (l3 + 1)) (w32 (l3 + 1)) (w32 (l3 + 1))) (fun r136 =>
            if kK (h (h l0 0) 9) = 21 ∧ (0 : Int) ≤ l1 ∧ l1 < kL (h (h l0 0) 9) then
            ob (Al_letterAt (h l0 3) l3 (h (h (h l0 0) 9) l1) h) (fun r154 =>
              if kK (h l0 4) = 22 ∧ (0 : Int) ≤ w32 (l2 + r136) ∧ w32 (l2 + r136) < kL (h l0 4) then
              let h_1 := hput h (h l0 4) (w32 (l2 + r136)) r154
              Ch_fillSign_j158 l0 l1 l2 l3 h_1
              else none)
            else none)
    else none
    else none
  else none
def Ch_fillSign (l0 l1 : Int) (h : Hp) : Option (Hp) :=
  if kK l0 = 1 then
  ob (Ch_row l0 l1 1 h) (fun r3 =>
    ob (loopN (fun q => Ch_fillSign_L9 l0 l1 r3 q.1 q.2) LN (0, h)) (fun e164 =>
      some e164))
  else none
def Ch_isThere (l0 l1 : Int) (h : Hp) : Option (Int) :=
  if kK l0 = 1 then
  some ((if i_and (i_shr (h l0 2) l1) 1 = 0 then 1 else 0))
  else none
def Ch_fill_j169 (l0 l5 l6 : Int) (h : Hp) : Option ((Int × Hp) ⊕ (Hp)) :=
  some (.inl (w32 (l6 + 1), h))
def Ch_fill_L40 (l0 l5 : Int) (l6 : Int) (h : Hp) : Option ((Int × Hp) ⊕ (Hp)) :=
  if kK l0 = 1 then
  if kK (h l0 0) = 3 then
  if h (h l0 0) 1 ≤ l6 then
    some (.inr h)
  else
    if kK (h (h l0 0) 16) = 21 ∧ (0 : Int) ≤ l6 ∧ l6 < kL (h (h l0 0) 16) then
    if kK (h (h l0 0) 7) = 21 ∧ (0 : Int) ≤ h (h (h l0 0) 16) l6 ∧ h (h (h l0 0) 16) l6 < kL (h (h l0 0) 7) then
    ob (Ch_isThere l0 (h (h (h l0 0) 7) (h (h (h l0 0) 16) l6)) h) (fun r75 =>
      if r75 = 0 then
        Ch_fill_j169 l0 l5 l6 h
      else
        if kK (h (h l0 0) 14) = 21 ∧ (0 : Int) ≤ h (h (h l0 0) 16) l6 ∧ h (h (h l0 0) 16) l6 < kL (h (h l0 0) 14) then
        if h (h (h l0 0) 14) (h (h (h l0 0) 16) l6) ≤ l5 then
          if kK (h (h l0 0) 8) = 21 ∧ (0 : Int) ≤ h (h (h l0 0) 16) l6 ∧ h (h (h l0 0) 16) l6 < kL (h (h l0 0) 8) then
          if h (h (h l0 0) 8) (h (h (h l0 0) 16) l6) = 0 then
            ob (Ch_fillBranch l0 (h (h (h l0 0) 16) l6) l5 h) (fun r117 =>
              Ch_fill_j169 l0 l5 l6 r117)
          else
            if h (h (h l0 0) 8) (h (h (h l0 0) 16) l6) = 4 then
              ob (Ch_fillPlace l0 (h (h (h l0 0) 16) l6) l5 h) (fun r142 =>
                Ch_fill_j169 l0 l5 l6 r142)
            else
              if h (h (h l0 0) 14) (h (h (h l0 0) 16) l6) = l5 then
                ob (Ch_fillSign l0 (h (h (h l0 0) 16) l6) h) (fun r166 =>
                  Ch_fill_j169 l0 l5 l6 r166)
              else
                Ch_fill_j169 l0 l5 l6 h
          else none
        else
          Ch_fill_j169 l0 l5 l6 h
        else none)
    else none
    else none
  else none
  else none
def Ch_fill_L28 (l0 : Int) (l5 : Int) (h : Hp) : Option ((Int × Hp) ⊕ (Hp)) :=
  if kK l0 = 1 then
  if h l0 1 < l5 then
    some (.inr h)
  else
    ob (loopN (fun q => Ch_fill_L40 l0 l5 q.1 q.2) LN (0, h)) (fun e175 =>
      some (.inl (w32 (l5 + 1), e175)))
  else none
def Ch_fill (l0 l1 l2 l3 l4 : Int) (h : Hp) : Option (Hp) :=
  if kK l0 = 1 then
  let h_1 := hput h l0 0 l1
  let h_2 := hput h_1 l0 2 l2
  let h_3 := hput h_2 l0 1 l3
  let h_4 := hput h_3 l0 3 l4
  ob (Ch_clear l0 h_4) (fun r22 =>
    ob (loopN (fun q => Ch_fill_L28 l0 q.1 q.2) LN (0, r22)) (fun e181 =>
      some e181))
  else none
def Gr_hostsAtStart (l0 : Int) (h : Hp) : Option (Int) :=
  if kK l0 = 3 then
  if h l0 0 = 0 then
    some 0
  else
    if kK (h l0 9) = 21 ∧ (0 : Int) ≤ 0 ∧ 0 < kL (h l0 9) then
    if kK (h l0 17) = 21 ∧ (0 : Int) ≤ h (h l0 9) 0 ∧ h (h l0 9) 0 < kL (h l0 17) then
    some (h (h l0 17) (h (h l0 9) 0))
    else none
    else none
  else none
def Ch_atStart (l0 l1 : Int) (h : Hp) : Option (Int) :=
  if kK l0 = 1 then
  if kK (h l0 0) = 3 then
  ob (Gr_hostsAtStart (h l0 0) h) (fun r5 =>
    ob (Ch_hostsOver l0 r5 0 l1 h) (fun r10 =>
      some r10))
  else none
  else none
def Ch_rootsOver_j63 (l0 l1 l2 l3 l4 l5 l6 l7 : Int) (h : Hp) : Option ((Int × Int) ⊕ (Int)) :=
  some (.inl (l6, w32 (l7 + 1)))
def Ch_rootsOver_L6 (l0 l1 l2 l3 l4 l5 : Int) (h : Hp) (l6 l7 : Int) : Option ((Int × Int) ⊕ (Int)) :=
  if kK l0 = 1 then
  if kK (h l0 0) = 3 then
  if h (h l0 0) 0 ≤ l7 then
    some (.inr l6)
  else
    if i_and (i_shr l1 l7) 1 = 1 then
      if kK (h (h l0 0) 6) = 21 ∧ (0 : Int) ≤ l7 ∧ l7 < kL (h (h l0 0) 6) then
      ob (Ch_value l0 (h (h (h l0 0) 6) l7) 1 l2 l3 l4 l5 h) (fun r46 =>
        Ch_rootsOver_j63 l0 l1 l2 l3 l4 l5 ((if r46 = 0 then l6 else i_or l6 (i_shl 1 l7))) l7 h)
      else none
    else
      Ch_rootsOver_j63 l0 l1 l2 l3 l4 l5 l6 l7 h
  else none
  else none
def Ch_rootsOver (l0 l1 l2 l3 l4 l5 : Int) (h : Hp) : Option (Int) :=
  ob (loopN (fun q => Ch_rootsOver_L6 l0 l1 l2 l3 l4 l5 h q.1 q.2) LN (0, 0)) (fun e69 =>
    some e69)
def Ch_itemsOf_j62 (l0 l1 l3 l4 l5 s0 s1 : Int) (h : Hp) : Option ((Int × Int) ⊕ (Int)) :=
  some (.inl (w32 (s1 + s0), w32 (l5 + 1)))
def Ch_itemsOf_L26 (l0 l1 l3 l4 : Int) (h : Hp) (l2 l5 : Int) : Option ((Int × Int) ⊕ (Int)) :=
  if kK l0 = 1 then
  if (0 : Int) ≤ w32 ((h l0 1) + 1) ∧ w32 ((h l0 1) + 1) < 10 then
  if sJ (w32 ((h l0 1) + 1)) ≤ l5 then
    some (.inr l2)
  else
    if kK (h l0 4) = 22 ∧ (0 : Int) ≤ w32 (l4 + l5) ∧ w32 (l4 + l5) < kL (h l0 4) then
    Ch_itemsOf_j62 l0 l1 l3 l4 l5 ((if h (h l0 4) (w32 (l4 + l5)) = 0 then 0 else 1)) l2 h
    else none
  else none
  else none
def Ch_itemsOf_L4 (l0 l1 : Int) (h : Hp) (l2 l3 : Int) : Option ((Int × Int) ⊕ (Int)) :=
  if kK l0 = 1 then
  if kK (h l0 0) = 3 then
  if h (h l0 0) 1 ≤ l3 then
    some (.inr l2)
  else
    ob (Ch_row l0 l3 l1 h) (fun r18 =>
      ob (loopN (fun q => Ch_itemsOf_L26 l0 l1 l3 r18 h q.1 q.2) LN (l2, 0)) (fun e70 =>
        some (.inl (e70, w32 (l3 + 1)))))
  else none
  else none
def Ch_itemsOf (l0 l1 : Int) (h : Hp) : Option (Int) :=
  ob (loopN (fun q => Ch_itemsOf_L4 l0 l1 h q.1 q.2) LN (0, 0)) (fun e76 =>
    some e76)
def JA_fillI_L5 (l0 l1 l3 : Int) (l2 : Int) (h : Hp) : Option ((Int × Hp) ⊕ (Hp)) :=
  if l3 ≤ l2 then
    some (.inr h)
  else
    if kK l0 = 21 ∧ (0 : Int) ≤ l2 ∧ l2 < kL l0 then
    let h_1 := hput h l0 l2 l1
    some (.inl (w32 (l2 + 1), h_1))
    else none
def JA_fillI (l0 l1 : Int) (h : Hp) : Option (Hp) :=
  if kK l0 = 21 then
  ob (loopN (fun q => JA_fillI_L5 l0 l1 (kL l0) q.1 q.2) LN (0, h)) (fun e20 =>
    some e20)
  else none
def Gr_clear (l0 : Int) (h : Hp) : Option (Hp) :=
  if kK l0 = 3 then
  let h_1 := hput h l0 0 0
  let h_2 := hput h_1 l0 1 0
  let h_3 := hput h_2 l0 2 0
  let h_4 := hput h_3 l0 3 0
  let h_5 := hput h_4 l0 4 0
  let h_6 := hput h_5 l0 5 0
  if kK (h_6 l0 6) = 21 ∧ (0 : Int) ≤ 0 ∧ 0 < kL (h_6 l0 6) then
  let h_7 := hput h_6 (h_6 l0 6) 0 0
  ob (JA_fillI (h_7 l0 17) 0 h_7) (fun r42 =>
    ob (JA_fillI (r42 l0 18) 0 r42) (fun r50 =>
      some r50))
  else none
  else none
def Gr_hasTree_j16 (h : Hp) : Option (Int) :=
  some 0
def Gr_hasTree (l0 l1 : Int) (h : Hp) : Option (Int) :=
  if l1 < 0 then
    Gr_hasTree_j16 h
  else
    if kK l0 = 3 then
    if h l0 0 ≤ l1 then
      Gr_hasTree_j16 h
    else
      some 1
    else none
def Gr_sizeOf (l0 l1 : Int) (h : Hp) : Option (Int) :=
  if kK l0 = 3 then
  if kK (h l0 6) = 21 ∧ (0 : Int) ≤ w32 (l1 + 1) ∧ w32 (l1 + 1) < kL (h l0 6) then
  if kK (h l0 6) = 21 ∧ (0 : Int) ≤ l1 ∧ l1 < kL (h l0 6) then
  some (w32 ((h (h l0 6) (w32 (l1 + 1))) - (h (h l0 6) l1)))
  else none
  else none
  else none
def Gr_hasNode_j25 (h : Hp) : Option (Int) :=
  some 0
def Gr_hasNode (l0 l1 l2 : Int) (h : Hp) : Option (Int) :=
  if kK l0 = 3 then
  ob (Gr_hasTree l0 l1 h) (fun r2 =>
    if r2 = 0 then
      Gr_hasNode_j25 h
    else
      if l2 < 0 then
        Gr_hasNode_j25 h
      else
        ob (Gr_sizeOf l0 l1 h) (fun r15 =>
          if r15 ≤ l2 then
            Gr_hasNode_j25 h
          else
            some 1))
  else none
def Gr_startLabel (l0 : Int) (h : Hp) : Option (Int) :=
  if kK l0 = 3 then
  if h l0 0 = 0 then
    some ((-1))
  else
    if kK (h l0 9) = 21 ∧ (0 : Int) ≤ 0 ∧ 0 < kL (h l0 9) then
    some (h (h l0 9) 0)
    else none
  else none
def Gr_firstOfKind_L7 (l0 l1 l2 : Int) (h : Hp) (l3 : Int) : Option ((Int) ⊕ ((Int) ⊕ (Unit))) :=
  if kK l0 = 3 then
  if kK (h l0 6) = 21 ∧ (0 : Int) ≤ w32 (l1 + 1) ∧ w32 (l1 + 1) < kL (h l0 6) then
  if h (h l0 6) (w32 (l1 + 1)) ≤ l3 then
    some (.inr (.inr (())))
  else
    if kK (h l0 8) = 21 ∧ (0 : Int) ≤ l3 ∧ l3 < kL (h l0 8) then
    if h (h l0 8) l3 = l2 then
      some (.inr (.inl (l3)))
    else
      some (.inl (w32 (l3 + 1)))
    else none
  else none
  else none
def Gr_firstOfKind (l0 l1 l2 : Int) (h : Hp) : Option (Int) :=
  if kK l0 = 3 then
  if kK (h l0 6) = 21 ∧ (0 : Int) ≤ l1 ∧ l1 < kL (h l0 6) then
  ob (loopN (fun q => Gr_firstOfKind_L7 l0 l1 l2 h q) LN (h (h l0 6) l1)) (fun q7 =>
    match q7 with
    | .inl e29 =>
      some (w32 (e29 - (h (h l0 6) l1)))
    | .inr e44 =>
      some ((-1)))
  else none
  else none
def Gr_placesOf_j34 (l0 l1 l2 l3 : Int) (h : Hp) : Option ((Int × Int) ⊕ (Int)) :=
  some (.inl (l2, w32 (l3 + 1)))
def Gr_placesOf_L9 (l0 l1 : Int) (h : Hp) (l2 l3 : Int) : Option ((Int × Int) ⊕ (Int)) :=
  if kK l0 = 3 then
  if kK (h l0 6) = 21 ∧ (0 : Int) ≤ w32 (l1 + 1) ∧ w32 (l1 + 1) < kL (h l0 6) then
  if h (h l0 6) (w32 (l1 + 1)) ≤ l3 then
    some (.inr l2)
  else
    if kK (h l0 8) = 21 ∧ (0 : Int) ≤ l3 ∧ l3 < kL (h l0 8) then
    Gr_placesOf_j34 l0 l1 ((if h (h l0 8) l3 = 4 then w32 (l2 + 1) else l2)) l3 h
    else none
  else none
  else none
def Gr_placesOf (l0 l1 : Int) (h : Hp) : Option (Int) :=
  if kK l0 = 3 then
  if kK (h l0 6) = 21 ∧ (0 : Int) ≤ l1 ∧ l1 < kL (h l0 6) then
  ob (loopN (fun q => Gr_placesOf_L9 l0 l1 h q.1 q.2) LN (0, h (h l0 6) l1)) (fun e40 =>
    some e40)
  else none
  else none
def Gr_openTree (l0 : Int) (h : Hp) : Option (Hp) :=
  if kK l0 = 3 then
  let h_1 := hput h l0 0 (w32 ((h l0 0) + 1))
  if kK (h_1 l0 6) = 21 ∧ (0 : Int) ≤ h_1 l0 0 ∧ h_1 l0 0 < kL (h_1 l0 6) then
  let h_2 := hput h_1 (h_1 l0 6) (h_1 l0 0) (h_1 l0 1)
  some h_2
  else none
  else none
def Gr_hasRoomForNode_j34 (h : Hp) : Option (Int) :=
  some 0
def Gr_hasRoomForNode (l0 : Int) (h : Hp) : Option (Int) :=
  if kK l0 = 3 then
  if 40 ≤ h l0 1 then
    Gr_hasRoomForNode_j34 h
  else
    if kK (h l0 6) = 21 ∧ (0 : Int) ≤ w32 ((h l0 0) - 1) ∧ w32 ((h l0 0) - 1) < kL (h l0 6) then
    if 12 ≤ w32 ((h l0 1) - (h (h l0 6) (w32 ((h l0 0) - 1)))) then
      Gr_hasRoomForNode_j34 h
    else
      some 1
    else none
  else none
def Gr_addNode_j132 (l0 l3 l4 : Int) (h : Hp) : Option (Int × Hp) :=
  if l3 = (-1) then
    some (l4, h)
  else
    if kK l0 = 3 then
    if kK (h l0 12) = 21 ∧ (0 : Int) ≤ l3 ∧ l3 < kL (h l0 12) then
    let h_12 := hput h (h l0 12) l3 l4
    some (l4, h_12)
    else none
    else none
def Gr_addNode (l0 l1 l2 l3 : Int) (h : Hp) : Option (Int × Hp) :=
  if kK l0 = 3 then
  let h_1 := hput h l0 1 (w32 ((h l0 1) + 1))
  if kK (h_1 l0 6) = 21 ∧ (0 : Int) ≤ h_1 l0 0 ∧ h_1 l0 0 < kL (h_1 l0 6) then
  let h_2 := hput h_1 (h_1 l0 6) (h_1 l0 0) (h_1 l0 1)
  if kK (h_2 l0 7) = 21 ∧ (0 : Int) ≤ h l0 1 ∧ h l0 1 < kL (h_2 l0 7) then
  let h_3 := hput h_2 (h_2 l0 7) (h l0 1) (w32 ((h_2 l0 0) - 1))
  if kK (h_3 l0 8) = 21 ∧ (0 : Int) ≤ h l0 1 ∧ h l0 1 < kL (h_3 l0 8) then
  let h_4 := hput h_3 (h_3 l0 8) (h l0 1) l1
  if kK (h_4 l0 9) = 21 ∧ (0 : Int) ≤ h l0 1 ∧ h l0 1 < kL (h_4 l0 9) then
  let h_5 := hput h_4 (h_4 l0 9) (h l0 1) l2
  if kK (h_5 l0 10) = 21 ∧ (0 : Int) ≤ h l0 1 ∧ h l0 1 < kL (h_5 l0 10) then
  let h_6 := hput h_5 (h_5 l0 10) (h l0 1) 0
  if kK (h_6 l0 11) = 21 ∧ (0 : Int) ≤ h l0 1 ∧ h l0 1 < kL (h_6 l0 11) then
  let h_7 := hput h_6 (h_6 l0 11) (h l0 1) ((-1))
  if kK (h_7 l0 12) = 21 ∧ (0 : Int) ≤ h l0 1 ∧ h l0 1 < kL (h_7 l0 12) then
  let h_8 := hput h_7 (h_7 l0 12) (h l0 1) ((-1))
  if kK (h_8 l0 13) = 21 ∧ (0 : Int) ≤ h l0 1 ∧ h l0 1 < kL (h_8 l0 13) then
  let h_9 := hput h_8 (h_8 l0 13) (h l0 1) l3
  if kK (h_9 l0 14) = 21 ∧ (0 : Int) ≤ h l0 1 ∧ h l0 1 < kL (h_9 l0 14) then
  let h_10 := hput h_9 (h_9 l0 14) (h l0 1) 0
  if kK (h_10 l0 15) = 23 ∧ (0 : Int) ≤ h l0 1 ∧ h l0 1 < kL (h_10 l0 15) then
  let h_11 := hput h_10 (h_10 l0 15) (h l0 1) 0
  if l3 = (-1) then
    Gr_addNode_j132 l0 l3 (h l0 1) h_11
  else
    if kK (h_11 l0 11) = 21 ∧ (0 : Int) ≤ l3 ∧ l3 < kL (h_11 l0 11) then
    if h_11 (h_11 l0 11) l3 = (-1) then
      let h_13 := hput h_11 (h_11 l0 11) l3 (h l0 1)
      some (h l0 1, h_13)
    else
      Gr_addNode_j132 l0 l3 (h l0 1) h_11
    else none
  else none
  else none
  else none
  else none
  else none
  else none
  else none
  else none
  else none
  else none
  else none
def Gr_addLetter_L26 (l0 : Int) (l4 l5 : Int) (h : Hp) : Option ((Int × Int × Hp) ⊕ (Hp)) :=
  if 12 ≤ l5 then
    some (.inr h)
  else
    if l4 = (-1) then
      some (.inr h)
    else
      if kK l0 = 3 then
      if kK (h l0 14) = 21 ∧ (0 : Int) ≤ l4 ∧ l4 < kL (h l0 14) then
      let h_2 := hput h (h l0 14) l4 (w32 ((h (h l0 14) l4) + 1))
      if kK (h_2 l0 13) = 21 ∧ (0 : Int) ≤ l4 ∧ l4 < kL (h_2 l0 13) then
      some (.inl (h_2 (h_2 l0 13) l4, w32 (l5 + 1), h_2))
      else none
      else none
      else none
def Gr_addLetter (l0 l1 l2 : Int) (h : Hp) : Option (Hp) :=
  if kK l0 = 3 then
  ob (Gr_addNode l0 1 l1 l2 h) (fun r4 =>
    let h_1 := hput r4.2 l0 5 (i_or (r4.2 l0 5) (i_shl 1 l1))
    ob (loopN (fun q => Gr_addLetter_L26 l0 q.1 q.2.1 q.2.2) LN (r4.1, 0, h_1)) (fun e65 =>
      some e65))
  else none
def Gr_addFoot_L14 (l0 : Int) (l4 l5 : Int) (h : Hp) : Option ((Int × Int × Hp) ⊕ (Hp)) :=
  if 12 ≤ l5 then
    some (.inr h)
  else
    if l4 = (-1) then
      some (.inr h)
    else
      if kK l0 = 3 then
      if kK (h l0 15) = 23 ∧ (0 : Int) ≤ l4 ∧ l4 < kL (h l0 15) then
      let h_1 := hput h (h l0 15) l4 1
      if kK (h_1 l0 13) = 21 ∧ (0 : Int) ≤ l4 ∧ l4 < kL (h_1 l0 13) then
      some (.inl (h_1 (h_1 l0 13) l4, w32 (l5 + 1), h_1))
      else none
      else none
      else none
def Gr_addFoot (l0 l1 l2 : Int) (h : Hp) : Option (Hp) :=
  if kK l0 = 3 then
  ob (Gr_addNode l0 3 l1 l2 h) (fun r4 =>
    ob (loopN (fun q => Gr_addFoot_L14 l0 q.1 q.2.1 q.2.2) LN (r4.1, 0, r4.2)) (fun e50 =>
      some e50))
  else none
def Gr_closeTree (l0 : Int) (h : Hp) : Option (Hp) :=
  if kK l0 = 3 then
  if kK (h l0 6) = 21 ∧ (0 : Int) ≤ w32 ((h l0 0) - 1) ∧ w32 ((h l0 0) - 1) < kL (h l0 6) then
  if kK (h l0 15) = 23 ∧ (0 : Int) ≤ h (h l0 6) (w32 ((h l0 0) - 1)) ∧ h (h l0 6) (w32 ((h l0 0) - 1)) < kL (h l0 15) then
  if h (h l0 15) (h (h l0 6) (w32 ((h l0 0) - 1))) = 0 then
    let h_1 := hput h l0 2 (i_or (h l0 2) (i_shl 1 (w32 ((h l0 0) - 1))))
    if kK (h_1 l0 9) = 21 ∧ (0 : Int) ≤ h (h l0 6) (w32 ((h l0 0) - 1)) ∧ h (h l0 6) (w32 ((h l0 0) - 1)) < kL (h_1 l0 9) then
    if kK (h_1 l0 17) = 21 ∧ (0 : Int) ≤ h_1 (h_1 l0 9) (h (h l0 6) (w32 ((h l0 0) - 1))) ∧ h_1 (h_1 l0 9) (h (h l0 6) (w32 ((h l0 0) - 1))) < kL (h_1 l0 17) then
    let h_2 := hput h_1 (h_1 l0 17) (h_1 (h_1 l0 9) (h (h l0 6) (w32 ((h l0 0) - 1)))) (i_or (h_1 (h_1 l0 17) (h_1 (h_1 l0 9) (h (h l0 6) (w32 ((h l0 0) - 1))))) (i_shl 1 (w32 ((h l0 0) - 1))))
    some h_2
    else none
    else none
  else
    let h_3 := hput h l0 3 (i_or (h l0 3) (i_shl 1 (w32 ((h l0 0) - 1))))
    if kK (h_3 l0 9) = 21 ∧ (0 : Int) ≤ h (h l0 6) (w32 ((h l0 0) - 1)) ∧ h (h l0 6) (w32 ((h l0 0) - 1)) < kL (h_3 l0 9) then
    if kK (h_3 l0 18) = 21 ∧ (0 : Int) ≤ h_3 (h_3 l0 9) (h (h l0 6) (w32 ((h l0 0) - 1))) ∧ h_3 (h_3 l0 9) (h (h l0 6) (w32 ((h l0 0) - 1))) < kL (h_3 l0 18) then
    let h_4 := hput h_3 (h_3 l0 18) (h_3 (h_3 l0 9) (h (h l0 6) (w32 ((h l0 0) - 1)))) (i_or (h_3 (h_3 l0 18) (h_3 (h_3 l0 9) (h (h l0 6) (w32 ((h l0 0) - 1))))) (i_shl 1 (w32 ((h l0 0) - 1))))
    some h_4
    else none
    else none
  else none
  else none
  else none
def Gr_turnOf (l0 l1 : Int) (h : Hp) : Option (Int) :=
  if kK l0 = 3 then
  if kK (h l0 7) = 21 ∧ (0 : Int) ≤ l1 ∧ l1 < kL (h l0 7) then
  if kK (h l0 6) = 21 ∧ (0 : Int) ≤ h (h l0 7) l1 ∧ h (h l0 7) l1 < kL (h l0 6) then
  if kK (h l0 14) = 21 ∧ (0 : Int) ≤ h (h l0 6) (h (h l0 7) l1) ∧ h (h l0 6) (h (h l0 7) l1) < kL (h l0 14) then
  if h (h l0 14) (h (h l0 6) (h (h l0 7) l1)) = 0 then
    some 1
  else
    if kK (h l0 14) = 21 ∧ (0 : Int) ≤ l1 ∧ l1 < kL (h l0 14) then
    some ((if h (h l0 14) l1 = h (h l0 14) (h (h l0 6) (h (h l0 7) l1)) then 0 else 2))
    else none
  else none
  else none
  else none
  else none
def Gr_putInOrder_j39 (l0 l1 l2 l3 : Int) (h : Hp) : Option ((Int × Int × Hp) ⊕ (Int × Hp)) :=
  some (.inl (l1, w32 (l3 + (-1)), h))
def Gr_putInOrder_L16 (l0 l2 : Int) (l1 l3 : Int) (h : Hp) : Option ((Int × Int × Hp) ⊕ (Int × Hp)) :=
  if l3 < 0 then
    some (.inr (l1, h))
  else
    if kK l0 = 3 then
    ob (Gr_turnOf l0 l3 h) (fun r22 =>
      if r22 = l2 then
        if kK (h l0 16) = 21 ∧ (0 : Int) ≤ l1 ∧ l1 < kL (h l0 16) then
        let h_1 := hput h (h l0 16) l1 l3
        Gr_putInOrder_j39 l0 (w32 (l1 + 1)) l2 l3 h_1
        else none
      else
        Gr_putInOrder_j39 l0 l1 l2 l3 h)
    else none
def Gr_putInOrder_L4 (l0 : Int) (l1 l2 : Int) (h : Hp) : Option ((Int × Int × Hp) ⊕ (Hp)) :=
  if 3 ≤ l2 then
    some (.inr h)
  else
    if kK l0 = 3 then
    ob (loopN (fun q => Gr_putInOrder_L16 l0 l2 q.1 q.2.1 q.2.2) LN (l1, w32 ((h l0 1) - 1), h)) (fun e45 =>
      some (.inl (e45.1, w32 (l2 + 1), e45.2)))
    else none
def Gr_putInOrder (l0 : Int) (h : Hp) : Option (Hp) :=
  ob (loopN (fun q => Gr_putInOrder_L4 l0 q.1 q.2.1 q.2.2) LN (0, 0, h)) (fun e51 =>
    some e51)
def GR_goOn (l0 l1 : Int) (h : Hp) : Option (Hp) :=
  if kK l0 = 4 then
  if kK (h l0 2) = 0 then
  ob (By_afterBlanks (h l0 2) (w32 ((h l0 4) + l1)) h) (fun r11 =>
    let h_1 := hput h l0 4 r11
    some h_1)
  else none
  else none
def GR_isWord_j74 (h : Hp) : Option (Int) :=
  some 0
def GR_isWord (l0 : Int) (h : Hp) : Option (Int) :=
  if kK l0 = 4 then
  if kK (h l0 2) = 0 then
  ob (By_at (h l0 2) (h l0 4) h) (fun r8 =>
    if r8 = 116 then
      ob (By_at (h l0 2) (w32 ((h l0 4) + 1)) h) (fun r26 =>
        if r26 = 114 then
          ob (By_at (h l0 2) (w32 ((h l0 4) + 2)) h) (fun r44 =>
            if r44 = 101 then
              ob (By_at (h l0 2) (w32 ((h l0 4) + 3)) h) (fun r62 =>
                if r62 = 101 then
                  some 1
                else
                  GR_isWord_j74 h)
            else
              GR_isWord_j74 h)
        else
          GR_isWord_j74 h)
    else
      GR_isWord_j74 h)
  else none
  else none
def GR_refuse (l0 l1 : Int) (h : Hp) : Option (Hp) :=
  if kK l0 = 4 then
  let h_1 := hput h l0 0 l1
  let h_2 := hput h_1 l0 1 (h_1 l0 4)
  some h_2
  else none
def GR_sign (l0 : Int) (h : Hp) : Option (Int) :=
  if kK l0 = 4 then
  if kK (h l0 2) = 0 then
  ob (By_at (h l0 2) (h l0 4) h) (fun r8 =>
    some r8)
  else none
  else none
def GR_readLineEnd (l0 : Int) (h : Hp) : Option (Hp) :=
  if kK l0 = 4 then
  if kK (h l0 3) = 3 then
  ob (Gr_closeTree (h l0 3) h) (fun r4 =>
    ob (GR_sign l0 r4) (fun r8 =>
      if r8 = 59 then
        ob (GR_goOn l0 1 r4) (fun r24 =>
          some r24)
      else
        ob (GR_refuse l0 1 r4) (fun r18 =>
          some r18)))
  else none
  else none
def GR_isLabel_j16 : Option (Int) :=
  some 0
def GR_isLabel (l0 : Int) : Option (Int) :=
  if l0 < 65 then
    GR_isLabel_j16 
  else
    if 90 < l0 then
      GR_isLabel_j16 
    else
      some 1
def GR_readOpening_j108 (l0 s0 s1 s2 : Int) (h : Hp) : Option (Hp) :=
  if kK s2 = 21 ∧ (0 : Int) ≤ s1 ∧ s1 < kL s2 then
  let h_2 := hput h s2 s1 s0
  if kK l0 = 4 then
  ob (GR_goOn l0 1 h_2) (fun r111 =>
    some r111)
  else none
  else none
def GR_readOpening_j83 (l0 : Int) (h : Hp) : Option (Hp) :=
  if kK l0 = 4 then
  if kK (h l0 3) = 3 then
  ob (GR_sign l0 h) (fun r95 =>
    GR_readOpening_j108 l0 ((if r95 = 33 then 1 else 2)) (h l0 5) (h (h l0 3) 10) h)
  else none
  else none
def GR_readOpening (l0 : Int) (h : Hp) : Option (Hp) :=
  if kK l0 = 4 then
  ob (GR_goOn l0 1 h) (fun r2 =>
    ob (GR_sign l0 r2) (fun r6 =>
      ob (GR_isLabel r6) (fun r9 =>
        if r9 = 0 then
          ob (GR_refuse l0 1 r2) (fun r17 =>
            some r17)
        else
          if kK (r2 l0 3) = 3 then
          ob (Gr_hasRoomForNode (r2 l0 3) r2) (fun r25 =>
            if r25 = 0 then
              ob (GR_refuse l0 3 r2) (fun r33 =>
                some r33)
            else
              ob (GR_sign l0 r2) (fun r44 =>
                ob (Gr_addNode (r2 l0 3) 0 (w32 (r44 - 65)) (r2 l0 5) r2) (fun r54 =>
                  let h_1 := hput r54.2 l0 5 r54.1
                  ob (GR_goOn l0 1 h_1) (fun r62 =>
                    ob (GR_sign l0 r62) (fun r66 =>
                      if r66 = 33 then
                        GR_readOpening_j83 l0 r62
                      else
                        ob (GR_sign l0 r62) (fun r75 =>
                          if r75 = 43 then
                            GR_readOpening_j83 l0 r62
                          else
                            some r62))))))
          else none)))
  else none
def X_isLetter_j16 : Option (Int) :=
  some 0
def X_isLetter (l0 : Int) : Option (Int) :=
  if l0 < 97 then
    X_isLetter_j16 
  else
    if 122 < l0 then
      X_isLetter_j16 
    else
      some 1
def GR_lacksLetter_j55 (h : Hp) : Option (Int) :=
  some 0
def GR_lacksLetter (l0 : Int) (h : Hp) : Option (Int) :=
  if kK l0 = 4 then
  if kK (h l0 3) = 3 then
  if kK (h (h l0 3) 14) = 21 ∧ (0 : Int) ≤ h l0 5 ∧ h l0 5 < kL (h (h l0 3) 14) then
  if h (h (h l0 3) 14) (h l0 5) = 0 then
    if kK (h (h l0 3) 15) = 23 ∧ (0 : Int) ≤ h l0 5 ∧ h l0 5 < kL (h (h l0 3) 15) then
    if h (h (h l0 3) 15) (h l0 5) = 0 then
      ob (Gr_placesOf (h l0 3) (w32 ((h (h l0 3) 0) - 1)) h) (fun r45 =>
        if r45 ≤ 0 then
          GR_lacksLetter_j55 h
        else
          some 1)
    else
      some 1
    else none
  else
    GR_lacksLetter_j55 h
  else none
  else none
  else none
def GR_readClosing_j51 (l0 : Int) (h : Hp) : Option (Hp) :=
  if kK l0 = 4 then
  if kK (h l0 3) = 3 then
  if kK (h (h l0 3) 13) = 21 ∧ (0 : Int) ≤ h l0 5 ∧ h l0 5 < kL (h (h l0 3) 13) then
  let h_1 := hput h l0 5 (h (h (h l0 3) 13) (h l0 5))
  ob (GR_goOn l0 1 h_1) (fun r69 =>
    some r69)
  else none
  else none
  else none
def GR_readClosing (l0 : Int) (h : Hp) : Option (Hp) :=
  if kK l0 = 4 then
  if kK (h l0 3) = 3 then
  if kK (h (h l0 3) 11) = 21 ∧ (0 : Int) ≤ h l0 5 ∧ h l0 5 < kL (h (h l0 3) 11) then
  if h (h (h l0 3) 11) (h l0 5) = (-1) then
    ob (GR_refuse l0 1 h) (fun r18 =>
      some r18)
  else
    if kK (h (h l0 3) 13) = 21 ∧ (0 : Int) ≤ h l0 5 ∧ h l0 5 < kL (h (h l0 3) 13) then
    if h (h (h l0 3) 13) (h l0 5) = (-1) then
      ob (GR_lacksLetter l0 h) (fun r39 =>
        if r39 = 0 then
          GR_readClosing_j51 l0 h
        else
          ob (GR_refuse l0 4 h) (fun r47 =>
            some r47))
    else
      GR_readClosing_j51 l0 h
    else none
  else none
  else none
  else none
def GR_readLabelled_j155 (l0 : Int) (h : Hp) : Option (Hp) :=
  if kK l0 = 4 then
  ob (GR_goOn l0 1 h) (fun r157 =>
    some r157)
  else none
def GR_readLabelled_j84 (l0 l1 l2 : Int) (h : Hp) : Option (Hp) :=
  if kK l0 = 4 then
  if kK (h l0 3) = 3 then
  ob (Gr_hasRoomForNode (h l0 3) h) (fun r88 =>
    if r88 = 0 then
      ob (GR_refuse l0 3 h) (fun r96 =>
        some r96)
    else
      ob (GR_goOn l0 1 h) (fun r102 =>
        if l2 = 42 then
          if kK (r102 l0 3) = 3 then
          ob (Gr_addFoot (r102 l0 3) l1 (r102 l0 5) r102) (fun r120 =>
            GR_readLabelled_j155 l0 r120)
          else none
        else
          if l2 = 94 then
            if kK (r102 l0 3) = 3 then
            ob (Gr_addNode (r102 l0 3) 4 l1 (r102 l0 5) r102) (fun r142 =>
              GR_readLabelled_j155 l0 r142.2)
            else none
          else
            ob (GR_refuse l0 1 r102) (fun r151 =>
              some r151)))
  else none
  else none
def GR_readLabelled_j78 (l0 : Int) (h : Hp) : Option (Hp) :=
  if kK l0 = 4 then
  ob (GR_refuse l0 2 h) (fun r80 =>
    some r80)
  else none
def GR_readLabelled (l0 : Int) (h : Hp) : Option (Hp) :=
  if kK l0 = 4 then
  ob (GR_sign l0 h) (fun r1 =>
    if kK (h l0 2) = 0 then
    ob (By_afterBlanks (h l0 2) (w32 ((h l0 4) + 1)) h) (fun r22 =>
      ob (By_at (h l0 2) r22 h) (fun r25 =>
        if kK (h l0 3) = 3 then
        if kK (h (h l0 3) 6) = 21 ∧ (0 : Int) ≤ w32 ((h (h l0 3) 0) - 1) ∧ w32 ((h (h l0 3) 0) - 1) < kL (h (h l0 3) 6) then
        if r25 = 42 then
          if kK (h (h l0 3) 15) = 23 ∧ (0 : Int) ≤ h (h (h l0 3) 6) (w32 ((h (h l0 3) 0) - 1)) ∧ h (h (h l0 3) 6) (w32 ((h (h l0 3) 0) - 1)) < kL (h (h l0 3) 15) then
          if h (h (h l0 3) 15) (h (h (h l0 3) 6) (w32 ((h (h l0 3) 0) - 1))) = 0 then
            if kK (h (h l0 3) 9) = 21 ∧ (0 : Int) ≤ h (h (h l0 3) 6) (w32 ((h (h l0 3) 0) - 1)) ∧ h (h (h l0 3) 6) (w32 ((h (h l0 3) 0) - 1)) < kL (h (h l0 3) 9) then
            if h (h (h l0 3) 9) (h (h (h l0 3) 6) (w32 ((h (h l0 3) 0) - 1))) = w32 (r1 - 65) then
              GR_readLabelled_j84 l0 (w32 (r1 - 65)) r25 h
            else
              GR_readLabelled_j78 l0 h
            else none
          else
            GR_readLabelled_j78 l0 h
          else none
        else
          GR_readLabelled_j84 l0 (w32 (r1 - 65)) r25 h
        else none
        else none))
    else none)
  else none
def GR_readSign_j60 (l0 : Int) (h : Hp) : Option (Hp) :=
  if kK l0 = 4 then
  ob (GR_goOn l0 1 h) (fun r62 =>
    some r62)
  else none
def GR_readSign (l0 : Int) (h : Hp) : Option (Hp) :=
  if kK l0 = 4 then
  if kK (h l0 3) = 3 then
  ob (Gr_hasRoomForNode (h l0 3) h) (fun r4 =>
    if r4 = 0 then
      ob (GR_refuse l0 3 h) (fun r12 =>
        some r12)
    else
      ob (GR_sign l0 h) (fun r17 =>
        if r17 = 46 then
          ob (Gr_addNode (h l0 3) 2 ((-1)) (h l0 5) h) (fun r35 =>
            GR_readSign_j60 l0 r35.2)
        else
          ob (GR_sign l0 h) (fun r47 =>
            ob (Gr_addLetter (h l0 3) (w32 (r47 - 97)) (h l0 5) h) (fun r57 =>
              GR_readSign_j60 l0 r57))))
  else none
  else none
def GR_readPart_j92 (l0 : Int) (h : Hp) : Option (Hp) :=
  if kK l0 = 4 then
  ob (GR_readSign l0 h) (fun r93 =>
    some r93)
  else none
def GR_readPart (l0 : Int) (h : Hp) : Option (Hp) :=
  if kK l0 = 4 then
  ob (GR_sign l0 h) (fun r1 =>
    if r1 = 41 then
      ob (GR_readClosing l0 h) (fun r10 =>
        some r10)
    else
      if kK (h l0 3) = 3 then
      if kK (h (h l0 3) 12) = 21 ∧ (0 : Int) ≤ h l0 5 ∧ h l0 5 < kL (h (h l0 3) 12) then
      if h (h (h l0 3) 12) (h l0 5) = (-1) then
        ob (GR_sign l0 h) (fun r41 =>
          if r41 = 40 then
            ob (GR_readOpening l0 h) (fun r50 =>
              some r50)
          else
            ob (GR_sign l0 h) (fun r57 =>
              ob (GR_isLabel r57) (fun r60 =>
                if r60 = 0 then
                  ob (GR_sign l0 h) (fun r74 =>
                    ob (X_isLetter r74) (fun r77 =>
                      if r77 = 0 then
                        ob (GR_sign l0 h) (fun r84 =>
                          if r84 = 46 then
                            GR_readPart_j92 l0 h
                          else
                            ob (GR_refuse l0 1 h) (fun r101 =>
                              some r101))
                      else
                        GR_readPart_j92 l0 h))
                else
                  ob (GR_readLabelled l0 h) (fun r67 =>
                    some r67))))
      else
        ob (GR_refuse l0 1 h) (fun r34 =>
          some r34)
      else none
      else none)
  else none
def GR_readLine_L69 (l0 : Int) (l1 : Int) (h : Hp) : Option ((Int × Hp) ⊕ (Hp)) :=
  if 400 ≤ l1 then
    some (.inr h)
  else
    if kK l0 = 4 then
    if h l0 5 = (-1) then
      some (.inr h)
    else
      if h l0 0 = 0 then
        ob (GR_readPart l0 h) (fun r92 =>
          some (.inl (w32 (l1 + 1), r92)))
      else
        some (.inr h)
    else none
def GR_readLine (l0 : Int) (h : Hp) : Option (Hp) :=
  if kK l0 = 4 then
  ob (GR_isWord l0 h) (fun r1 =>
    if r1 = 0 then
      ob (GR_refuse l0 1 h) (fun r9 =>
        some r9)
    else
      if kK (h l0 3) = 3 then
      if h (h l0 3) 0 < 8 then
        ob (GR_goOn l0 4 h) (fun r33 =>
          ob (GR_sign l0 r33) (fun r37 =>
            if r37 = 40 then
              if kK (r33 l0 3) = 3 then
              ob (Gr_openTree (r33 l0 3) r33) (fun r55 =>
                let h_1 := hput r55 l0 5 ((-1))
                ob (GR_readOpening l0 h_1) (fun r64 =>
                  ob (loopN (fun q => GR_readLine_L69 l0 q.1 q.2) LN (0, r64)) (fun e101 =>
                    if e101 l0 0 = 0 then
                      ob (GR_readLineEnd l0 e101) (fun r109 =>
                        some r109)
                    else
                      some e101)))
              else none
            else
              ob (GR_refuse l0 1 r33) (fun r47 =>
                some r47)))
      else
        ob (GR_refuse l0 3 h) (fun r27 =>
          some r27)
      else none)
  else none
def GR_readText_L41 (l0 : Int) (l3 : Int) (h : Hp) : Option ((Int × Hp) ⊕ (Hp)) :=
  if 8 < l3 then
    some (.inr h)
  else
    if kK l0 = 4 then
    if kK (h l0 2) = 0 then
    if h (h l0 2) 1 ≤ h l0 4 then
      some (.inr h)
    else
      if h l0 0 = 0 then
        ob (GR_readLine l0 h) (fun r69 =>
          some (.inl (w32 (l3 + 1), r69)))
      else
        some (.inr h)
    else none
    else none
def GR_readText (l0 l1 l2 : Int) (h : Hp) : Option (Int × Hp) :=
  if kK l0 = 4 then
  let h_1 := hput h l0 2 l1
  let h_2 := hput h_1 l0 3 l2
  if kK (h_2 l0 3) = 3 then
  ob (Gr_clear (h_2 l0 3) h_2) (fun r14 =>
    let h_3 := hput r14 l0 0 0
    let h_4 := hput h_3 l0 1 ((-1))
    if kK (h_4 l0 2) = 0 then
    ob (By_afterBlanks (h_4 l0 2) 0 h_4) (fun r33 =>
      let h_5 := hput h_4 l0 4 r33
      ob (loopN (fun q => GR_readText_L41 l0 q.1 q.2) LN (0, h_5)) (fun e78 =>
        if kK (e78 l0 3) = 3 then
        ob (Gr_putInOrder (e78 l0 3) e78) (fun r82 =>
          some ((if r82 l0 0 = 0 then 1 else 0), r82))
        else none))
    else none)
  else none
  else none
def JA_fillJ_L6 (l0 l1 l4 : Int) (l3 : Int) (h : Hp) : Option ((Int × Hp) ⊕ (Hp)) :=
  if l4 ≤ l3 then
    some (.inr h)
  else
    if kK l0 = 22 ∧ (0 : Int) ≤ l3 ∧ l3 < kL l0 then
    let h_1 := hput h l0 l3 l1
    some (.inl (w32 (l3 + 1), h_1))
    else none
def JA_fillJ (l0 l1 : Int) (h : Hp) : Option (Hp) :=
  if kK l0 = 22 then
  ob (loopN (fun q => JA_fillJ_L6 l0 l1 (kL l0) q.1 q.2) LN (0, h)) (fun e22 =>
    some e22)
  else none
def Ms_clear (l0 : Int) (h : Hp) : Option (Hp) :=
  if kK l0 = 5 then
  let h_1 := hput h l0 0 0
  ob (JA_fillJ (h_1 l0 2) 0 h_1) (fun r10 =>
    some r10)
  else none
def Ms_close (l0 l1 : Int) (h : Hp) : Option (Hp) :=
  if kK l0 = 5 then
  if 64 ≤ h l0 0 then
    some h
  else
    if kK (h l0 1) = 21 ∧ (0 : Int) ≤ h l0 0 ∧ h l0 0 < kL (h l0 1) then
    let h_1 := hput h (h l0 1) (h l0 0) l1
    let h_2 := hput h_1 l0 0 (w32 ((h_1 l0 0) + 1))
    some h_2
    else none
  else none
def Ms_has (l0 l1 l2 : Int) (h : Hp) : Option (Hp) :=
  if kK l0 = 5 then
  if 64 ≤ h l0 0 then
    some h
  else
    if w32 ((w32 (l1 * 26)) + l2) < 0 then
      some h
    else
      if kK (h l0 2) = 22 then
      if kL (h l0 2) ≤ w32 ((w32 (l1 * 26)) + l2) then
        some h
      else
        if kK (h l0 2) = 22 ∧ (0 : Int) ≤ w32 ((w32 (l1 * 26)) + l2) ∧ w32 ((w32 (l1 * 26)) + l2) < kL (h l0 2) then
        let h_1 := hput h (h l0 2) (w32 ((w32 (l1 * 26)) + l2)) (l_or (h (h l0 2) (w32 ((w32 (l1 * 26)) + l2))) (l_shl 1 (h l0 0)))
        some h_1
        else none
      else none
  else none
def Ms_addChange_j31 (l0 l1 l2 l3 l4 s0 s1 s2 : Int) (h : Hp) : Option ((Int × Hp) ⊕ (Hp)) :=
  if kK s2 = 5 then
  ob (Ms_has s2 s1 s0 h) (fun r31 =>
    some (.inl (w32 (l4 + 1), r31)))
  else none
def Ms_addChange_L3 (l0 l1 l2 l3 : Int) (l4 : Int) (h : Hp) : Option ((Int × Hp) ⊕ (Hp)) :=
  if kK l1 = 0 then
  if h l1 1 ≤ l4 then
    some (.inr h)
  else
    if l4 = l2 then
      Ms_addChange_j31 l0 l1 l2 l3 l4 l3 l4 l0 h
    else
      ob (By_at l1 l4 h) (fun r28 =>
        Ms_addChange_j31 l0 l1 l2 l3 l4 r28 l4 l0 h)
  else none
def Ms_addChange (l0 l1 l2 l3 : Int) (h : Hp) : Option (Hp) :=
  ob (loopN (fun q => Ms_addChange_L3 l0 l1 l2 l3 q.1 q.2) LN (0, h)) (fun e40 =>
    if kK l0 = 5 then
    ob (Ms_close l0 (w32 ((w32 (100 * l2)) + l3)) e40) (fun r47 =>
      some r47)
    else none)
def Ms_letterOf_j28 (l0 l2 l3 : Int) : Option ((Int × Int) ⊕ ((Int) ⊕ (Unit))) :=
  some (.inl (l2, w32 (l3 + 1)))
def Ms_letterOf_L4 (l0 : Int) (l2 l3 : Int) : Option ((Int × Int) ⊕ ((Int) ⊕ (Unit))) :=
  if 26 ≤ l3 then
    some (.inr (.inr (())))
  else
    if i_and (i_shr l0 l3) 1 = 1 then
      if l2 = 0 then
        some (.inr (.inl (l3)))
      else
        Ms_letterOf_j28 l0 (w32 (l2 + (-1))) l3
    else
      Ms_letterOf_j28 l0 l2 l3
def Ms_letterOf (l0 l1 : Int) : Option (Int) :=
  ob (loopN (fun q => Ms_letterOf_L4 l0 q.1 q.2) LN (l1, 0)) (fun q4 =>
    match q4 with
    | .inl e23 =>
      some e23
    | .inr e34 =>
      some 0)
def Ms_addSentence_j50 (l0 l1 l2 l6 l7 l8 l9 s0 : Int) (h : Hp) : Option ((Int × Int × Int × Int × Hp) ⊕ (Int × Hp)) :=
  if kK l0 = 5 then
  ob (Ms_has l0 l8 l9 h) (fun r57 =>
    some (.inl (s0, w32 (l6 + (w32 (l7 * (w32 (l9 + 1))))), w32 (l7 * 27), w32 (l8 + (-1)), r57)))
  else none
def Ms_addSentence_j36 (l0 l1 l2 l5 l6 l7 l8 s0 : Int) (h : Hp) : Option ((Int × Int × Int × Int × Hp) ⊕ (Int × Hp)) :=
  if l2 = 0 then
    Ms_addSentence_j50 l0 l1 l2 l6 l7 l8 s0 0 h
  else
    if l2 ≠ 0 then
    Ms_addSentence_j50 l0 l1 l2 l6 l7 l8 s0 (w32 (Int.tdiv l5 l2)) h
    else none
def Ms_addSentence_L15 (l0 l1 l2 : Int) (l5 l6 l7 l8 : Int) (h : Hp) : Option ((Int × Int × Int × Int × Hp) ⊕ (Int × Hp)) :=
  if l8 < 0 then
    some (.inr (l6, h))
  else
    if l2 = 0 then
      Ms_addSentence_j36 l0 l1 l2 l5 l6 l7 l8 0 h
    else
      if l2 ≠ 0 then
      ob (Ms_letterOf l1 (w32 (Int.tmod l5 l2))) (fun r33 =>
        Ms_addSentence_j36 l0 l1 l2 l5 l6 l7 l8 r33 h)
      else none
def Ms_addSentence (l0 l1 l2 l3 l4 : Int) (h : Hp) : Option (Hp) :=
  ob (loopN (fun q => Ms_addSentence_L15 l0 l1 l2 q.1 q.2.1 q.2.2.1 q.2.2.2.1 q.2.2.2.2) LN (l4, 0, 1, w32 (l3 - 1), h)) (fun e85 =>
    if kK l0 = 5 then
    ob (Ms_close l0 e85.1 e85.2) (fun r88 =>
      some r88)
    else none)
def SR_isDigit_j16 : Option (Int) :=
  some 0
def SR_isDigit (l0 : Int) : Option (Int) :=
  if l0 < 48 then
    SR_isDigit_j16 
  else
    if 57 < l0 then
      SR_isDigit_j16 
    else
      some 1
def SR_readNumber_L23 (l0 : Int) (l1 : Int) (h : Hp) : Option ((Int × Hp) ⊕ (Int × Hp)) :=
  if kK l0 = 6 then
  if kK (h l0 0) = 0 then
  if h (h l0 0) 1 ≤ h l0 3 then
    some (.inr (l1, h))
  else
    ob (By_at (h l0 0) (h l0 3) h) (fun r45 =>
      ob (SR_isDigit r45) (fun r48 =>
        if r48 = 0 then
          some (.inr (l1, h))
        else
          ob (By_at (h l0 0) (h l0 3) h) (fun r68 =>
            let h_1 := hput h l0 3 (w32 ((h l0 3) + 1))
            some (.inl (min 1000000 (w32 ((w32 ((w32 (10 * l1)) + r68)) - 48)), h_1)))))
  else none
  else none
def SR_readNumber_j22 (l0 s0 : Int) (h : Hp) : Option (Int × Hp) :=
  ob (loopN (fun q => SR_readNumber_L23 l0 q.1 q.2) LN (s0, h)) (fun e92 =>
    if kK l0 = 6 then
    if kK (e92.2 l0 0) = 0 then
    ob (By_afterBlanks (e92.2 l0 0) (e92.2 l0 3) e92.2) (fun r101 =>
      let h_2 := hput e92.2 l0 3 r101
      some (e92.1, h_2))
    else none
    else none)
def SR_readNumber (l0 : Int) (h : Hp) : Option (Int × Hp) :=
  if kK l0 = 6 then
  if kK (h l0 0) = 0 then
  ob (By_at (h l0 0) (h l0 3) h) (fun r8 =>
    ob (SR_isDigit r8) (fun r11 =>
      SR_readNumber_j22 l0 ((if r11 = 0 then (-1) else 0)) h))
  else none
  else none
def SR_readStep_j118 (l0 s0 : Int) (h : Hp) : Option (Int × Hp) :=
  if kK l0 = 6 then
  if kK (h l0 0) = 0 then
  ob (By_afterBlanks (h l0 0) (w32 ((h l0 3) + 1)) h) (fun r130 =>
    let h_4 := hput h l0 3 r130
    let h_5 := hput h_4 l0 4 (w32 ((h_4 l0 4) + 1))
    if s0 = 0 ∨ s0 = 1 then
    some (s0, h_5)
    else none)
  else none
  else none
def SR_readStep_j117 (l0 : Int) (h : Hp) : Option (Int × Hp) :=
  SR_readStep_j118 l0 0 h
def SR_readStep_j60 (l0 s0 s1 s2 : Int) (h : Hp) : Option (Int × Hp) :=
  if kK s2 = 21 ∧ (0 : Int) ≤ s1 ∧ s1 < kL s2 then
  let h_3 := hput h s2 s1 s0
  if kK l0 = 6 then
  if kK (h_3 l0 5) = 21 ∧ (0 : Int) ≤ h_3 l0 4 ∧ h_3 l0 4 < kL (h_3 l0 5) then
  if h_3 (h_3 l0 5) (h_3 l0 4) < 0 then
    SR_readStep_j117 l0 h_3
  else
    if kK (h_3 l0 6) = 21 ∧ (0 : Int) ≤ h_3 l0 4 ∧ h_3 l0 4 < kL (h_3 l0 6) then
    if h_3 (h_3 l0 6) (h_3 l0 4) < 0 then
      SR_readStep_j117 l0 h_3
    else
      if kK (h_3 l0 7) = 21 ∧ (0 : Int) ≤ h_3 l0 4 ∧ h_3 l0 4 < kL (h_3 l0 7) then
      if h_3 (h_3 l0 7) (h_3 l0 4) < 0 then
        SR_readStep_j117 l0 h_3
      else
        if kK (h_3 l0 0) = 0 then
        ob (By_at (h_3 l0 0) (h_3 l0 3) h_3) (fun r105 =>
          if r105 = 59 then
            SR_readStep_j118 l0 1 h_3
          else
            SR_readStep_j117 l0 h_3)
        else none
      else none
    else none
  else none
  else none
  else none
def SR_readStep_j36 (l0 s0 s1 s2 : Int) (h : Hp) : Option (Int × Hp) :=
  if kK s2 = 21 ∧ (0 : Int) ≤ s1 ∧ s1 < kL s2 then
  let h_2 := hput h s2 s1 s0
  if kK l0 = 6 then
  if h_2 l0 4 = 0 then
    SR_readStep_j60 l0 0 (h_2 l0 4) (h_2 l0 7) h_2
  else
    ob (SR_readNumber l0 h_2) (fun r57 =>
      SR_readStep_j60 l0 r57.1 (h_2 l0 4) (h_2 l0 7) r57.2)
  else none
  else none
def SR_readStep (l0 : Int) (h : Hp) : Option (Int × Hp) :=
  if kK l0 = 6 then
  ob (SR_readNumber l0 h) (fun r9 =>
    if kK (h l0 5) = 21 ∧ (0 : Int) ≤ h l0 4 ∧ h l0 4 < kL (h l0 5) then
    let h_1 := hput r9.2 (h l0 5) (h l0 4) r9.1
    if h_1 l0 4 = 0 then
      SR_readStep_j36 l0 0 (h_1 l0 4) (h_1 l0 6) h_1
    else
      ob (SR_readNumber l0 h_1) (fun r33 =>
        SR_readStep_j36 l0 r33.1 (h_1 l0 4) (h_1 l0 6) r33.2)
    else none)
  else none
def SR_readText_j89 (l0 l3 s0 : Int) (h : Hp) : Option ((Int × Int × Hp) ⊕ (Int × Hp)) :=
  some (.inl (s0, w32 (l3 + 1), h))
def SR_readText_j88 (l0 l3 : Int) (h : Hp) : Option ((Int × Int × Hp) ⊕ (Int × Hp)) :=
  SR_readText_j89 l0 l3 0 h
def SR_readText_L44 (l0 : Int) (l2 l3 : Int) (h : Hp) : Option ((Int × Int × Hp) ⊕ (Int × Hp)) :=
  if 40 < l3 then
    some (.inr (l2, h))
  else
    if l2 = 0 then
      some (.inr (l2, h))
    else
      if kK l0 = 6 then
      if kK (h l0 0) = 0 then
      if h (h l0 0) 1 ≤ h l0 3 then
        some (.inr (l2, h))
      else
        if 40 ≤ h l0 4 then
          SR_readText_j88 l0 l3 h
        else
          ob (SR_readStep l0 h) (fun r78 =>
            if r78.1 = 0 then
              SR_readText_j88 l0 l3 r78.2
            else
              SR_readText_j89 l0 l3 1 r78.2)
      else none
      else none
def SR_readText_j41 (l0 s0 : Int) (h : Hp) : Option (Int × Hp) :=
  ob (loopN (fun q => SR_readText_L44 l0 q.1 q.2.1 q.2.2) LN (s0, 0, h)) (fun e96 =>
    if e96.1 = 0 ∨ e96.1 = 1 then
    some (e96.1, e96.2)
    else none)
def SR_readText (l0 l1 : Int) (h : Hp) : Option (Int × Hp) :=
  if kK l0 = 6 then
  let h_1 := hput h l0 0 l1
  let h_2 := hput h_1 l0 4 0
  if kK (h_2 l0 0) = 0 then
  ob (By_afterBlanks (h_2 l0 0) 0 h_2) (fun r16 =>
    let h_3 := hput h_2 l0 3 r16
    if kK (h_3 l0 0) = 0 then
    SR_readText_j41 l0 ((if h_3 (h_3 l0 0) 1 ≤ h_3 l0 3 then 0 else 1)) h_3
    else none)
  else none
  else none
def SR_fits_j92 (h : Hp) : Option (Int) :=
  some 0
def SR_fits_j56 (h : Hp) : Option (Int) :=
  some 0
def SR_fits (l0 l1 l2 : Int) (h : Hp) : Option (Int) :=
  if kK l0 = 6 then
  if kK (h l0 1) = 3 then
  if kK (h (h l0 1) 9) = 21 ∧ (0 : Int) ≤ l2 ∧ l2 < kL (h (h l0 1) 9) then
  if kK (h (h l0 1) 8) = 21 ∧ (0 : Int) ≤ l2 ∧ l2 < kL (h (h l0 1) 8) then
  if h (h (h l0 1) 8) l2 = 0 then
    if kK (h (h l0 1) 10) = 21 ∧ (0 : Int) ≤ l2 ∧ l2 < kL (h (h l0 1) 10) then
    if h (h (h l0 1) 10) l2 = 1 then
      SR_fits_j56 h
    else
      if kK (h (h l0 1) 18) = 21 ∧ (0 : Int) ≤ h (h (h l0 1) 9) l2 ∧ h (h (h l0 1) 9) l2 < kL (h (h l0 1) 18) then
      if i_and (i_shr (h (h (h l0 1) 18) (h (h (h l0 1) 9) l2)) l1) 1 = 1 then
        some 1
      else
        SR_fits_j56 h
      else none
    else none
  else
    if h (h (h l0 1) 8) l2 = 4 then
      if kK (h (h l0 1) 17) = 21 ∧ (0 : Int) ≤ h (h (h l0 1) 9) l2 ∧ h (h (h l0 1) 9) l2 < kL (h (h l0 1) 17) then
      if i_and (i_shr (h (h (h l0 1) 17) (h (h (h l0 1) 9) l2)) l1) 1 = 1 then
        some 1
      else
        SR_fits_j92 h
      else none
    else
      SR_fits_j92 h
  else none
  else none
  else none
  else none
def SR_canBeThere (l0 l1 : Int) (h : Hp) : Option (Int) :=
  if kK l0 = 6 then
  if kK (h l0 5) = 21 ∧ (0 : Int) ≤ l1 ∧ l1 < kL (h l0 5) then
  if kK (h l0 1) = 3 then
  ob (Gr_hasTree (h l0 1) (h (h l0 5) l1) h) (fun r10 =>
    if r10 = 0 then
      some 0
    else
      if i_and (i_shr (h (h l0 1) 4) (h (h l0 5) l1)) 1 = 1 then
        some 0
      else
        if l1 = 0 then
          ob (Gr_hostsAtStart (h l0 1) h) (fun r46 =>
            some ((if i_and (i_shr r46 (h (h l0 5) l1)) 1 = 1 then 1 else 0)))
        else
          if kK (h l0 6) = 21 ∧ (0 : Int) ≤ l1 ∧ l1 < kL (h l0 6) then
          if l1 ≤ h (h l0 6) l1 then
            some 0
          else
            if kK (h l0 5) = 21 ∧ (0 : Int) ≤ h (h l0 6) l1 ∧ h (h l0 6) l1 < kL (h l0 5) then
            if kK (h l0 7) = 21 ∧ (0 : Int) ≤ l1 ∧ l1 < kL (h l0 7) then
            ob (Gr_hasNode (h l0 1) (h (h l0 5) (h (h l0 6) l1)) (h (h l0 7) l1) h) (fun r96 =>
              if r96 = 0 then
                some 0
              else
                if kK (h (h l0 1) 6) = 21 ∧ (0 : Int) ≤ h (h l0 5) (h (h l0 6) l1) ∧ h (h l0 5) (h (h l0 6) l1) < kL (h (h l0 1) 6) then
                if kK (h l0 2) = 8 then
                if kK (h (h l0 2) 8) = 21 ∧ (0 : Int) ≤ w32 ((w32 ((h (h l0 6) l1) * 12)) + (h (h l0 7) l1)) ∧ w32 ((w32 ((h (h l0 6) l1) * 12)) + (h (h l0 7) l1)) < kL (h (h l0 2) 8) then
                if h (h (h l0 2) 8) (w32 ((w32 ((h (h l0 6) l1) * 12)) + (h (h l0 7) l1))) = (-1) then
                  ob (SR_fits l0 (h (h l0 5) l1) (w32 ((h (h (h l0 1) 6) (h (h l0 5) (h (h l0 6) l1))) + (h (h l0 7) l1))) h) (fun r159 =>
                    if r159 = 0 ∨ r159 = 1 then
                    some r159
                    else none)
                else
                  some 0
                else none
                else none
                else none)
            else none
            else none
          else none)
  else none
  else none
  else none
def SR_firstLacking_j114 (l0 l1 l2 l3 l4 l5 : Int) (h : Hp) : Option ((Int) ⊕ ((Unit) ⊕ (Unit))) :=
  some (.inl (w32 (l5 + 1)))
def SR_firstLacking_j86 (l0 l1 l2 l3 l4 l5 s0 : Int) (h : Hp) : Option ((Int) ⊕ ((Unit) ⊕ (Unit))) :=
  if s0 = 0 then
    SR_firstLacking_j114 l0 l1 l2 l3 l4 l5 h
  else
    if kK l0 = 6 then
    if kK (h l0 2) = 8 then
    if kK (h (h l0 2) 8) = 21 ∧ (0 : Int) ≤ w32 ((w32 (l3 * 12)) + l5) ∧ w32 ((w32 (l3 * 12)) + l5) < kL (h (h l0 2) 8) then
    if h (h (h l0 2) 8) (w32 ((w32 (l3 * 12)) + l5)) = (-1) then
      some (.inr (.inl (())))
    else
      SR_firstLacking_j114 l0 l1 l2 l3 l4 l5 h
    else none
    else none
    else none
def SR_firstLacking_j85 (l0 l1 l2 l3 l4 l5 : Int) (h : Hp) : Option ((Int) ⊕ ((Unit) ⊕ (Unit))) :=
  SR_firstLacking_j86 l0 l1 l2 l3 l4 l5 0 h
def SR_firstLacking_L29 (l0 l1 l2 l3 l4 : Int) (h : Hp) (l5 : Int) : Option ((Int) ⊕ ((Unit) ⊕ (Unit))) :=
  if kK l0 = 6 then
  if kK (h l0 5) = 21 ∧ (0 : Int) ≤ l3 ∧ l3 < kL (h l0 5) then
  if kK (h l0 1) = 3 then
  ob (Gr_sizeOf (h l0 1) (h (h l0 5) l3) h) (fun r41 =>
    if r41 ≤ l5 then
      some (.inr (.inr (())))
    else
      if kK (h (h l0 1) 8) = 21 ∧ (0 : Int) ≤ w32 (l4 + l5) ∧ w32 (l4 + l5) < kL (h (h l0 1) 8) then
      if h (h (h l0 1) 8) (w32 (l4 + l5)) = l1 then
        if kK (h (h l0 1) 10) = 21 ∧ (0 : Int) ≤ w32 (l4 + l5) ∧ w32 (l4 + l5) < kL (h (h l0 1) 10) then
        if h (h (h l0 1) 10) (w32 (l4 + l5)) = l2 then
          SR_firstLacking_j86 l0 l1 l2 l3 l4 l5 1 h
        else
          SR_firstLacking_j85 l0 l1 l2 l3 l4 l5 h
        else none
      else
        SR_firstLacking_j85 l0 l1 l2 l3 l4 l5 h
      else none)
  else none
  else none
  else none
def SR_firstLacking_L2 (l0 l1 l2 : Int) (h : Hp) (l3 : Int) : Option ((Int) ⊕ ((Int) ⊕ (Unit))) :=
  if kK l0 = 6 then
  if h l0 4 ≤ l3 then
    some (.inr (.inr (())))
  else
    if kK (h l0 1) = 3 then
    if kK (h l0 5) = 21 ∧ (0 : Int) ≤ l3 ∧ l3 < kL (h l0 5) then
    if kK (h (h l0 1) 6) = 21 ∧ (0 : Int) ≤ h (h l0 5) l3 ∧ h (h l0 5) l3 < kL (h (h l0 1) 6) then
    ob (loopN (fun q => SR_firstLacking_L29 l0 l1 l2 l3 (h (h (h l0 1) 6) (h (h l0 5) l3)) h q) LN 0) (fun q29 =>
      match q29 with
      | .inl e112 =>
        some (.inr (.inl (l3)))
      | .inr e120 =>
        some (.inl (w32 (l3 + 1))))
    else none
    else none
    else none
  else none
def SR_firstLacking (l0 l1 l2 : Int) (h : Hp) : Option (Int) :=
  ob (loopN (fun q => SR_firstLacking_L2 l0 l1 l2 h q) LN 0) (fun q2 =>
    match q2 with
    | .inl e112 =>
      some e112
    | .inr e126 =>
      some ((-1)))
def Wy_addStep_j68 (l0 l4 : Int) (h : Hp) : Option (Int × Hp) :=
  if kK l0 = 8 then
  let h_5 := hput h l0 1 (w32 ((h l0 1) + 1))
  some (l4, h_5)
  else none
def Wy_addStep (l0 l1 l2 l3 : Int) (h : Hp) : Option (Int × Hp) :=
  if kK l0 = 8 then
  if h l0 1 < 48 then
    if kK (h l0 4) = 21 ∧ (0 : Int) ≤ h l0 1 ∧ h l0 1 < kL (h l0 4) then
    let h_1 := hput h (h l0 4) (h l0 1) l1
    if kK (h_1 l0 5) = 21 ∧ (0 : Int) ≤ h l0 1 ∧ h l0 1 < kL (h_1 l0 5) then
    let h_2 := hput h_1 (h_1 l0 5) (h l0 1) l2
    if kK (h_2 l0 6) = 21 ∧ (0 : Int) ≤ h l0 1 ∧ h l0 1 < kL (h_2 l0 6) then
    let h_3 := hput h_2 (h_2 l0 6) (h l0 1) l3
    if kK (h_3 l0 7) = 21 ∧ (0 : Int) ≤ h l0 1 ∧ h l0 1 < kL (h_3 l0 7) then
    let h_4 := hput h_3 (h_3 l0 7) (h l0 1) ((-1))
    if l2 = (-1) then
      Wy_addStep_j68 l0 (h l0 1) h_4
    else
      if kK (h_4 l0 8) = 21 ∧ (0 : Int) ≤ w32 ((w32 (l2 * 12)) + l3) ∧ w32 ((w32 (l2 * 12)) + l3) < kL (h_4 l0 8) then
      let h_6 := hput h_4 (h_4 l0 8) (w32 ((w32 (l2 * 12)) + l3)) (h l0 1)
      Wy_addStep_j68 l0 (h l0 1) h_6
      else none
    else none
    else none
    else none
    else none
  else
    some (47, h)
  else none
def Wy_clear (l0 : Int) (h : Hp) : Option (Hp) :=
  if kK l0 = 8 then
  let h_1 := hput h l0 1 0
  ob (JA_fillI (h_1 l0 8) ((-1)) h_1) (fun r10 =>
    some r10)
  else none
def SR_putTogether_j78 (l0 l3 s0 s1 s2 s3 : Int) (h : Hp) : Option ((Int × Hp) ⊕ ((Int × Hp) ⊕ (Hp))) :=
  if kK s3 = 8 then
  ob (Wy_addStep s3 s2 s1 s0 h) (fun r78 =>
    some (.inl (w32 (l3 + 1), r78.2)))
  else none
def SR_putTogether_j64 (l0 l3 s0 s1 s2 : Int) (h : Hp) : Option ((Int × Hp) ⊕ ((Int × Hp) ⊕ (Hp))) :=
  if l3 = 0 then
    SR_putTogether_j78 l0 l3 ((-1)) s0 s1 s2 h
  else
    if kK l0 = 6 then
    if kK (h l0 7) = 21 ∧ (0 : Int) ≤ l3 ∧ l3 < kL (h l0 7) then
    SR_putTogether_j78 l0 l3 (h (h l0 7) l3) s0 s1 s2 h
    else none
    else none
def SR_putTogether_L19 (l0 : Int) (l3 : Int) (h : Hp) : Option ((Int × Hp) ⊕ ((Int × Hp) ⊕ (Hp))) :=
  if kK l0 = 6 then
  if h l0 4 ≤ l3 then
    some (.inr (.inr (h)))
  else
    ob (SR_canBeThere l0 l3 h) (fun r29 =>
      if r29 = 0 then
        some (.inr (.inl ((l3, h))))
      else
        if kK (h l0 5) = 21 ∧ (0 : Int) ≤ l3 ∧ l3 < kL (h l0 5) then
        if l3 = 0 then
          SR_putTogether_j64 l0 l3 ((-1)) (h (h l0 5) l3) (h l0 2) h
        else
          if kK (h l0 6) = 21 ∧ (0 : Int) ≤ l3 ∧ l3 < kL (h l0 6) then
          SR_putTogether_j64 l0 l3 (h (h l0 6) l3) (h (h l0 5) l3) (h l0 2) h
          else none
        else none)
  else none
def SR_putTogether (l0 l1 l2 : Int) (h : Hp) : Option (Int × Hp) :=
  if kK l0 = 6 then
  let h_1 := hput h l0 1 l1
  let h_2 := hput h_1 l0 2 l2
  if kK (h_2 l0 2) = 8 then
  ob (Wy_clear (h_2 l0 2) h_2) (fun r14 =>
    ob (loopN (fun q => SR_putTogether_L19 l0 q.1 q.2) LN (0, r14)) (fun q19 =>
      match q19 with
      | .inl e35 =>
        some (w32 (((-100)) - e35.1), e35.2)
      | .inr e88 =>
        ob (SR_firstLacking l0 4 0 e88) (fun r91 =>
          if r91 = (-1) then
            ob (SR_firstLacking l0 0 2 e88) (fun r109 =>
              some ((if r109 = (-1) then 0 else w32 (((-300)) - r109)), e88))
          else
            some (w32 (((-200)) - r91), e88))))
  else none
  else none
def Wy_tellSteps_j56 (l0 l1 l2 : Int) (h : Hp) : Option ((Int × Hp) ⊕ (Hp)) :=
  if kK l1 = 0 then
  ob (By_add l1 59 h) (fun r59 =>
    some (.inl (w32 (l2 + 1), r59)))
  else none
def Wy_tellSteps_L2 (l0 l1 : Int) (l2 : Int) (h : Hp) : Option ((Int × Hp) ⊕ (Hp)) :=
  if kK l0 = 8 then
  if h l0 1 ≤ l2 then
    some (.inr h)
  else
    if kK (h l0 4) = 21 ∧ (0 : Int) ≤ l2 ∧ l2 < kL (h l0 4) then
    if kK l1 = 0 then
    ob (By_addNumber l1 (h (h l0 4) l2) h) (fun r17 =>
      if l2 ≤ 0 then
        Wy_tellSteps_j56 l0 l1 l2 r17
      else
        ob (By_add l1 32 r17) (fun r27 =>
          if kK (r27 l0 5) = 21 ∧ (0 : Int) ≤ l2 ∧ l2 < kL (r27 l0 5) then
          ob (By_addNumber l1 (r27 (r27 l0 5) l2) r27) (fun r37 =>
            ob (By_add l1 32 r37) (fun r43 =>
              if kK (r43 l0 6) = 21 ∧ (0 : Int) ≤ l2 ∧ l2 < kL (r43 l0 6) then
              ob (By_addNumber l1 (r43 (r43 l0 6) l2) r43) (fun r53 =>
                Wy_tellSteps_j56 l0 l1 l2 r53)
              else none))
          else none))
    else none
    else none
  else none
def Wy_tellSteps (l0 l1 : Int) (h : Hp) : Option (Hp) :=
  ob (loopN (fun q => Wy_tellSteps_L2 l0 l1 q.1 q.2) LN (0, h)) (fun e68 =>
    some e68)
def Wy_pushTask (l0 l1 : Int) (h : Hp) : Option (Hp) :=
  if kK l0 = 8 then
  if 1024 ≤ h l0 14 then
    some h
  else
    if kK (h l0 13) = 21 ∧ (0 : Int) ≤ h l0 14 ∧ h l0 14 < kL (h l0 13) then
    let h_1 := hput h (h l0 13) (h l0 14) l1
    let h_2 := hput h_1 l0 14 (w32 ((h_1 l0 14) + 1))
    some h_2
    else none
  else none
def Wy_push (l0 l1 l2 l3 : Int) (h : Hp) : Option (Hp) :=
  if kK l0 = 8 then
  ob (Wy_pushTask l0 (w32 ((w32 (2 * (w32 ((w32 (l1 * 12)) + l2)))) + l3)) h) (fun r11 =>
    some r11)
  else none
def Wy_blankAhead (l0 : Int) (h : Hp) : Option (Hp) :=
  if kK l0 = 8 then
  if kK (h l0 9) = 0 then
  if h (h l0 9) 1 ≤ 0 then
    some h
  else
    ob (By_add (h l0 9) 32 h) (fun r16 =>
      some r16)
  else none
  else none
def Wy_growLetter_j84 (l0 l1 l2 l3 l4 l6 : Int) (h : Hp) : Option (Hp) :=
  if kK l1 = 3 then
  ob (Gr_firstOfKind l1 l4 1 h) (fun r88 =>
    if r88 = l3 then
      if kK l0 = 8 then
      if kK (h l0 7) = 21 ∧ (0 : Int) ≤ l2 ∧ l2 < kL (h l0 7) then
      let h_1 := hput h (h l0 7) l2 l6
      some h_1
      else none
      else none
    else
      some h)
  else none
def Wy_growLetter (l0 l1 l2 l3 : Int) (h : Hp) : Option (Hp) :=
  if kK l0 = 8 then
  if kK (h l0 4) = 21 ∧ (0 : Int) ≤ l2 ∧ l2 < kL (h l0 4) then
  if kK l1 = 3 then
  if kK (h l1 6) = 21 ∧ (0 : Int) ≤ h (h l0 4) l2 ∧ h (h l0 4) l2 < kL (h l1 6) then
  if kK (h l1 9) = 21 ∧ (0 : Int) ≤ w32 ((h (h l1 6) (h (h l0 4) l2)) + l3) ∧ w32 ((h (h l1 6) (h (h l0 4) l2)) + l3) < kL (h l1 9) then
  if kK (h l0 10) = 0 then
  ob (Wy_blankAhead l0 h) (fun r34 =>
    if kK (r34 l0 9) = 0 then
    ob (By_add (r34 l0 9) (w32 (97 + (h (h l1 9) (w32 ((h (h l1 6) (h (h l0 4) l2)) + l3))))) r34) (fun r46 =>
      if kK (r46 l0 11) = 21 then
      if kL (r46 l0 11) ≤ h (h l0 10) 1 then
        Wy_growLetter_j84 l0 l1 l2 l3 (h (h l0 4) l2) (h (h l0 10) 1) r46
      else
        if kK (r46 l0 11) = 21 ∧ (0 : Int) ≤ h (h l0 10) 1 ∧ h (h l0 10) 1 < kL (r46 l0 11) then
        let h_2 := hput r46 (r46 l0 11) (h (h l0 10) 1) l2
        if kK (h_2 l0 12) = 21 ∧ (0 : Int) ≤ h (h l0 10) 1 ∧ h (h l0 10) 1 < kL (h_2 l0 12) then
        let h_3 := hput h_2 (h_2 l0 12) (h (h l0 10) 1) l3
        if kK (h_3 l0 10) = 0 then
        ob (By_add (h_3 l0 10) (h (h l1 9) (w32 ((h (h l1 6) (h (h l0 4) l2)) + l3))) h_3) (fun r81 =>
          Wy_growLetter_j84 l0 l1 l2 l3 (h (h l0 4) l2) (h (h l0 10) 1) r81)
        else none
        else none
        else none
      else none)
    else none)
  else none
  else none
  else none
  else none
  else none
  else none
def Wy_unfoldBranch_j113 (l0 l1 l2 l3 l4 : Int) (h : Hp) : Option (Hp) :=
  if kK l1 = 3 then
  if kK (h l1 11) = 21 ∧ (0 : Int) ≤ w32 (l4 + l3) ∧ w32 (l4 + l3) < kL (h l1 11) then
  if kK l0 = 8 then
  ob (Wy_push l0 l2 (w32 ((h (h l1 11) (w32 (l4 + l3))) - l4)) 1 h) (fun r128 =>
    some r128)
  else none
  else none
  else none
def Wy_unfoldBranch (l0 l1 l2 l3 : Int) (h : Hp) : Option (Hp) :=
  if kK l1 = 3 then
  if kK l0 = 8 then
  if kK (h l0 4) = 21 ∧ (0 : Int) ≤ l2 ∧ l2 < kL (h l0 4) then
  if kK (h l1 6) = 21 ∧ (0 : Int) ≤ h (h l0 4) l2 ∧ h (h l0 4) l2 < kL (h l1 6) then
  ob (Wy_blankAhead l0 h) (fun r14 =>
    if kK (r14 l0 9) = 0 then
    ob (By_add (r14 l0 9) 40 r14) (fun r23 =>
      if kK (r23 l1 9) = 21 ∧ (0 : Int) ≤ w32 ((h (h l1 6) (h (h l0 4) l2)) + l3) ∧ w32 ((h (h l1 6) (h (h l0 4) l2)) + l3) < kL (r23 l1 9) then
      if kK (r23 l0 9) = 0 then
      ob (By_add (r23 l0 9) (w32 (65 + (r23 (r23 l1 9) (w32 ((h (h l1 6) (h (h l0 4) l2)) + l3))))) r23) (fun r42 =>
        let h_1 := hput r42 l0 3 (w32 ((r42 l0 3) + 1))
        let h_2 := hput h_1 l0 15 (w32 ((h_1 l0 15) + 1))
        let h_3 := hput h_2 l0 2 (max (h_2 l0 2) (h_2 l0 15))
        ob (Wy_pushTask l0 ((-1)) h_3) (fun r82 =>
          if kK (r82 l1 12) = 21 ∧ (0 : Int) ≤ w32 ((h (h l1 6) (h (h l0 4) l2)) + l3) ∧ w32 ((h (h l1 6) (h (h l0 4) l2)) + l3) < kL (r82 l1 12) then
          if r82 (r82 l1 12) (w32 ((h (h l1 6) (h (h l0 4) l2)) + l3)) = (-1) then
            Wy_unfoldBranch_j113 l0 l1 l2 l3 (h (h l1 6) (h (h l0 4) l2)) r82
          else
            ob (Wy_push l0 l2 (w32 ((r82 (r82 l1 12) (w32 ((h (h l1 6) (h (h l0 4) l2)) + l3))) - (h (h l1 6) (h (h l0 4) l2)))) 1 r82) (fun r110 =>
              Wy_unfoldBranch_j113 l0 l1 l2 l3 (h (h l1 6) (h (h l0 4) l2)) r110)
          else none))
      else none
      else none)
    else none)
  else none
  else none
  else none
  else none
def Wy_unfoldNode_j86 (l0 l1 l2 l3 l6 : Int) (h : Hp) : Option (Hp) :=
  if l6 = 0 then
    if kK l0 = 8 then
    ob (Wy_unfoldBranch l0 l1 l2 l3 h) (fun r95 =>
      some r95)
    else none
  else
    if l6 = 1 then
      if kK l0 = 8 then
      ob (Wy_growLetter l0 l1 l2 l3 h) (fun r111 =>
        some r111)
      else none
    else
      if l6 = 2 then
        if kK l0 = 8 then
        ob (Wy_blankAhead l0 h) (fun r124 =>
          if kK (r124 l0 9) = 0 then
          ob (By_add (r124 l0 9) 46 r124) (fun r133 =>
            some r133)
          else none)
        else none
      else
        some h
def Wy_unfoldNode (l0 l1 l2 l3 l4 : Int) (h : Hp) : Option (Hp) :=
  if kK l1 = 3 then
  if kK l0 = 8 then
  if kK (h l0 4) = 21 ∧ (0 : Int) ≤ l2 ∧ l2 < kL (h l0 4) then
  if kK (h l1 6) = 21 ∧ (0 : Int) ≤ h (h l0 4) l2 ∧ h (h l0 4) l2 < kL (h l1 6) then
  if kK (h l1 8) = 21 ∧ (0 : Int) ≤ w32 ((h (h l1 6) (h (h l0 4) l2)) + l3) ∧ w32 ((h (h l1 6) (h (h l0 4) l2)) + l3) < kL (h l1 8) then
  if kK (h l0 8) = 21 ∧ (0 : Int) ≤ w32 ((w32 (l2 * 12)) + l3) ∧ w32 ((w32 (l2 * 12)) + l3) < kL (h l0 8) then
  if h (h l1 8) (w32 ((h (h l1 6) (h (h l0 4) l2)) + l3)) = 3 then
    if kK (h l0 5) = 21 ∧ (0 : Int) ≤ l2 ∧ l2 < kL (h l0 5) then
    if kK (h l0 6) = 21 ∧ (0 : Int) ≤ l2 ∧ l2 < kL (h l0 6) then
    ob (Wy_push l0 (h (h l0 5) l2) (h (h l0 6) l2) 0 h) (fun r57 =>
      some r57)
    else none
    else none
  else
    if h (h l0 8) (w32 ((w32 (l2 * 12)) + l3)) = (-1) then
      Wy_unfoldNode_j86 l0 l1 l2 l3 (h (h l1 8) (w32 ((h (h l1 6) (h (h l0 4) l2)) + l3))) h
    else
      if l4 = 1 then
        ob (Wy_push l0 (h (h l0 8) (w32 ((w32 (l2 * 12)) + l3))) 0 1 h) (fun r80 =>
          some r80)
      else
        Wy_unfoldNode_j86 l0 l1 l2 l3 (h (h l1 8) (w32 ((h (h l1 6) (h (h l0 4) l2)) + l3))) h
  else none
  else none
  else none
  else none
  else none
  else none
def Wy_unfold_j129 (l0 l1 l2 : Int) (h : Hp) : Option ((Int × Hp) ⊕ (Hp)) :=
  some (.inl (w32 (l2 + 1), h))
def Wy_unfold_L45 (l0 l1 : Int) (l2 : Int) (h : Hp) : Option ((Int × Hp) ⊕ (Hp)) :=
  if 4096 ≤ l2 then
    some (.inr h)
  else
    if kK l0 = 8 then
    if h l0 14 ≤ 0 then
      some (.inr h)
    else
      let h_7 := hput h l0 14 (w32 ((h l0 14) - 1))
      if kK (h_7 l0 13) = 21 ∧ (0 : Int) ≤ h_7 l0 14 ∧ h_7 l0 14 < kL (h_7 l0 13) then
      if h_7 (h_7 l0 13) (h_7 l0 14) = (-1) then
        if kK (h_7 l0 9) = 0 then
        ob (By_add (h_7 l0 9) 41 h_7) (fun r90 =>
          let h_8 := hput r90 l0 15 (w32 ((r90 l0 15) - 1))
          Wy_unfold_j129 l0 l1 l2 h_8)
        else none
      else
        ob (Wy_unfoldNode l0 l1 (w32 (Int.tdiv (i_shr (h_7 (h_7 l0 13) (h_7 l0 14)) 1) 12)) (w32 (Int.tmod (i_shr (h_7 (h_7 l0 13) (h_7 l0 14)) 1) 12)) (i_and (h_7 (h_7 l0 13) (h_7 l0 14)) 1) h_7) (fun r126 =>
          Wy_unfold_j129 l0 l1 l2 r126)
      else none
    else none
def Wy_unfold (l0 l1 : Int) (h : Hp) : Option (Hp) :=
  if kK l0 = 8 then
  if kK (h l0 9) = 0 then
  let h_1 := hput h (h l0 9) 1 0
  if kK (h_1 l0 10) = 0 then
  let h_2 := hput h_1 (h_1 l0 10) 1 0
  let h_3 := hput h_2 l0 2 0
  let h_4 := hput h_3 l0 3 0
  let h_5 := hput h_4 l0 15 0
  let h_6 := hput h_5 l0 14 0
  ob (Wy_push l0 0 0 1 h_6) (fun r40 =>
    ob (loopN (fun q => Wy_unfold_L45 l0 l1 q.1 q.2) LN (0, r40)) (fun e135 =>
      some e135))
  else none
  else none
  else none
def Wy_hasArc_j33 (h : Hp) : Option (Int) :=
  some 0
def Wy_hasArc (l0 l1 : Int) (h : Hp) : Option (Int) :=
  if l1 ≤ 0 then
    Wy_hasArc_j33 h
  else
    if kK l0 = 8 then
    if kK (h l0 7) = 21 ∧ (0 : Int) ≤ l1 ∧ l1 < kL (h l0 7) then
    if h (h l0 7) l1 = (-1) then
      Wy_hasArc_j33 h
    else
      if kK (h l0 5) = 21 ∧ (0 : Int) ≤ l1 ∧ l1 < kL (h l0 5) then
      if kK (h l0 7) = 21 ∧ (0 : Int) ≤ h (h l0 5) l1 ∧ h (h l0 5) l1 < kL (h l0 7) then
      if h (h l0 7) (h (h l0 5) l1) = (-1) then
        Wy_hasArc_j33 h
      else
        some 1
      else none
      else none
    else none
    else none
def Wy_arcCount_j26 (l0 l2 s0 s1 : Int) (h : Hp) : Option ((Int × Int) ⊕ (Int)) :=
  some (.inl (w32 (s1 + s0), w32 (l2 + 1)))
def Wy_arcCount_L4 (l0 : Int) (h : Hp) (l1 l2 : Int) : Option ((Int × Int) ⊕ (Int)) :=
  if kK l0 = 8 then
  if h l0 1 ≤ l2 then
    some (.inr l1)
  else
    ob (Wy_hasArc l0 l2 h) (fun r15 =>
      Wy_arcCount_j26 l0 l2 ((if r15 = 0 then 0 else 1)) l1 h)
  else none
def Wy_arcCount (l0 : Int) (h : Hp) : Option (Int) :=
  ob (loopN (fun q => Wy_arcCount_L4 l0 h q.1 q.2) LN (0, 1)) (fun e34 =>
    some e34)
def Wy_longestArc_j46 (l0 l1 l2 : Int) (h : Hp) : Option ((Int × Int) ⊕ (Int)) :=
  some (.inl (l1, w32 (l2 + 1)))
def Wy_longestArc_L4 (l0 : Int) (h : Hp) (l1 l2 : Int) : Option ((Int × Int) ⊕ (Int)) :=
  if kK l0 = 8 then
  if h l0 1 ≤ l2 then
    some (.inr l1)
  else
    ob (Wy_hasArc l0 l2 h) (fun r14 =>
      if r14 = 0 then
        Wy_longestArc_j46 l0 l1 l2 h
      else
        if kK (h l0 7) = 21 ∧ (0 : Int) ≤ l2 ∧ l2 < kL (h l0 7) then
        if kK (h l0 5) = 21 ∧ (0 : Int) ≤ l2 ∧ l2 < kL (h l0 5) then
        if kK (h l0 7) = 21 ∧ (0 : Int) ≤ h (h l0 5) l2 ∧ h (h l0 5) l2 < kL (h l0 7) then
        Wy_longestArc_j46 l0 (max l1 (i_abs (w32 ((h (h l0 7) l2) - (h (h l0 7) (h (h l0 5) l2)))))) l2 h
        else none
        else none
        else none)
  else none
def Wy_longestArc (l0 : Int) (h : Hp) : Option (Int) :=
  ob (loopN (fun q => Wy_longestArc_L4 l0 h q.1 q.2) LN (0, 1)) (fun e52 =>
    some e52)
def Wy_cross_j130 (h : Hp) : Option (Int) :=
  some 0
def Wy_cross_j107 (l3 l4 l5 l6 : Int) (h : Hp) : Option (Int) :=
  if l3 ≤ l5 then
    Wy_cross_j130 h
  else
    if l6 ≤ l3 then
      Wy_cross_j130 h
    else
      if l4 ≤ l6 then
        Wy_cross_j130 h
      else
        some 1
def Wy_cross (l0 l1 l2 : Int) (h : Hp) : Option (Int) :=
  if kK l0 = 8 then
  if kK (h l0 7) = 21 ∧ (0 : Int) ≤ l1 ∧ l1 < kL (h l0 7) then
  if kK (h l0 5) = 21 ∧ (0 : Int) ≤ l1 ∧ l1 < kL (h l0 5) then
  if kK (h l0 7) = 21 ∧ (0 : Int) ≤ h (h l0 5) l1 ∧ h (h l0 5) l1 < kL (h l0 7) then
  if kK (h l0 7) = 21 ∧ (0 : Int) ≤ l2 ∧ l2 < kL (h l0 7) then
  if kK (h l0 5) = 21 ∧ (0 : Int) ≤ l2 ∧ l2 < kL (h l0 5) then
  if kK (h l0 7) = 21 ∧ (0 : Int) ≤ h (h l0 5) l2 ∧ h (h l0 5) l2 < kL (h l0 7) then
  if min (h (h l0 7) l2) (h (h l0 7) (h (h l0 5) l2)) ≤ min (h (h l0 7) l1) (h (h l0 7) (h (h l0 5) l1)) then
    Wy_cross_j107 (min (h (h l0 7) l1) (h (h l0 7) (h (h l0 5) l1))) (max (h (h l0 7) l1) (h (h l0 7) (h (h l0 5) l1))) (min (h (h l0 7) l2) (h (h l0 7) (h (h l0 5) l2))) (max (h (h l0 7) l2) (h (h l0 7) (h (h l0 5) l2))) h
  else
    if max (h (h l0 7) l1) (h (h l0 7) (h (h l0 5) l1)) ≤ min (h (h l0 7) l2) (h (h l0 7) (h (h l0 5) l2)) then
      Wy_cross_j107 (min (h (h l0 7) l1) (h (h l0 7) (h (h l0 5) l1))) (max (h (h l0 7) l1) (h (h l0 7) (h (h l0 5) l1))) (min (h (h l0 7) l2) (h (h l0 7) (h (h l0 5) l2))) (max (h (h l0 7) l2) (h (h l0 7) (h (h l0 5) l2))) h
    else
      if max (h (h l0 7) l1) (h (h l0 7) (h (h l0 5) l1)) < max (h (h l0 7) l2) (h (h l0 7) (h (h l0 5) l2)) then
        some 1
      else
        Wy_cross_j107 (min (h (h l0 7) l1) (h (h l0 7) (h (h l0 5) l1))) (max (h (h l0 7) l1) (h (h l0 7) (h (h l0 5) l1))) (min (h (h l0 7) l2) (h (h l0 7) (h (h l0 5) l2))) (max (h (h l0 7) l2) (h (h l0 7) (h (h l0 5) l2))) h
  else none
  else none
  else none
  else none
  else none
  else none
  else none
def Wy_crossings_j55 (l0 l2 l3 s0 s1 : Int) (h : Hp) : Option ((Int × Int) ⊕ (Int)) :=
  some (.inl (w32 (s1 + s0), w32 (l3 + 1)))
def Wy_crossings_j54 (l0 l2 l3 s0 : Int) (h : Hp) : Option ((Int × Int) ⊕ (Int)) :=
  Wy_crossings_j55 l0 l2 l3 0 s0 h
def Wy_crossings_L16 (l0 l2 : Int) (h : Hp) (l1 l3 : Int) : Option ((Int × Int) ⊕ (Int)) :=
  if kK l0 = 8 then
  if h l0 1 ≤ l3 then
    some (.inr l1)
  else
    ob (Wy_hasArc l0 l2 h) (fun r27 =>
      if r27 = 0 then
        Wy_crossings_j54 l0 l2 l3 l1 h
      else
        ob (Wy_hasArc l0 l3 h) (fun r35 =>
          if r35 = 0 then
            Wy_crossings_j54 l0 l2 l3 l1 h
          else
            ob (Wy_cross l0 l2 l3 h) (fun r44 =>
              if r44 = 0 then
                Wy_crossings_j54 l0 l2 l3 l1 h
              else
                Wy_crossings_j55 l0 l2 l3 1 l1 h)))
  else none
def Wy_crossings_L4 (l0 : Int) (h : Hp) (l1 l2 : Int) : Option ((Int × Int) ⊕ (Int)) :=
  if kK l0 = 8 then
  if h l0 1 ≤ l2 then
    some (.inr l1)
  else
    ob (loopN (fun q => Wy_crossings_L16 l0 l2 h q.1 q.2) LN (l1, w32 (l2 + 1))) (fun e63 =>
      some (.inl (e63, w32 (l2 + 1))))
  else none
def Wy_crossings (l0 : Int) (h : Hp) : Option (Int) :=
  ob (loopN (fun q => Wy_crossings_L4 l0 h q.1 q.2) LN (0, 1)) (fun e69 =>
    some e69)
def WF_cover (l0 l1 l2 l3 : Int) : Option (Int) :=
  some (i_or (i_or (i_or (i_shl l0 12) (i_shl l1 8)) (i_shl l2 4)) l3)
def WF_push (l0 l1 l2 l3 l4 l5 : Int) (h : Hp) : Option (Hp) :=
  if kK l0 = 9 then
  if 1024 ≤ h l0 3 then
    some h
  else
    if kK (h l0 4) = 21 ∧ (0 : Int) ≤ h l0 3 ∧ h l0 3 < kL (h l0 4) then
    let h_1 := hput h (h l0 4) (h l0 3) (w32 ((w32 (2 * (w32 ((w32 (l1 * 12)) + l2)))) + l3))
    if kK (h_1 l0 5) = 21 ∧ (0 : Int) ≤ h_1 l0 3 ∧ h_1 l0 3 < kL (h_1 l0 5) then
    let h_2 := hput h_1 (h_1 l0 5) (h_1 l0 3) l4
    if kK (h_2 l0 6) = 22 ∧ (0 : Int) ≤ h_2 l0 3 ∧ h_2 l0 3 < kL (h_2 l0 6) then
    let h_3 := hput h_2 (h_2 l0 6) (h_2 l0 3) l5
    let h_4 := hput h_3 l0 3 (w32 ((h_3 l0 3) + 1))
    some h_4
    else none
    else none
    else none
  else none
def WF_putGuest_j258 (l0 l1 l2 l3 l4 l5 s0 s1 s2 : Int) (h : Hp) : Option ((Int × Hp) ⊕ ((Int × Int × Int × Int × Hp) ⊕ (Hp))) :=
  if kK s2 = 9 then
  let h_1 := hput h s2 9 (w64 (s1 - s0))
  some (.inl (w32 (l5 + 1), h_1))
  else none
def WF_putGuest_j257 (l0 l1 l2 l3 l4 l5 s0 s1 : Int) (h : Hp) : Option ((Int × Hp) ⊕ ((Int × Int × Int × Int × Hp) ⊕ (Hp))) :=
  WF_putGuest_j258 l0 l1 l2 l3 l4 l5 0 s0 s1 h
def WF_putGuest_j230 (l0 l1 l2 l3 l4 l5 l8 l10 : Int) (h : Hp) : Option ((Int × Hp) ⊕ ((Int × Int × Int × Int × Hp) ⊕ (Hp))) :=
  if kK l0 = 9 then
  if l8 ≤ 0 then
    WF_putGuest_j257 l0 l1 l2 l3 l4 l5 (h l0 9) l0 h
  else
    if l10 ≤ 0 then
      WF_putGuest_j257 l0 l1 l2 l3 l4 l5 (h l0 9) l0 h
    else
      WF_putGuest_j258 l0 l1 l2 l3 l4 l5 (w64 (l8 * l10)) (h l0 9) l0 h
  else none
def WF_putGuest_j77 (l0 l1 l2 l3 l4 l5 l6 s0 : Int) (h : Hp) : Option ((Int × Hp) ⊕ ((Int × Int × Int × Int × Hp) ⊕ (Hp))) :=
  if kK l0 = 9 then
  if kK (h l0 0) = 1 then
  ob (Ch_value (h l0 0) l1 0 l4 l5 l6 s0 h) (fun r93 =>
    if kK (h l0 1) = 3 then
    if kK (h (h l0 1) 6) = 21 ∧ (0 : Int) ≤ l2 ∧ l2 < kL (h (h l0 1) 6) then
    ob (Ch_value (h l0 0) (h (h (h l0 1) 6) l2) 1 (h l0 10) (h l0 11) l4 l5 h) (fun r124 =>
      if r93 ≤ 0 then
        WF_putGuest_j230 l0 l1 l2 l3 l4 l5 r93 r124 h
      else
        if r93 ≠ 0 then
        if r124 ≤ w64 (Int.tdiv (h l0 9) r93) then
          WF_putGuest_j230 l0 l1 l2 l3 l4 l5 r93 r124 h
        else
          some (.inr (.inl ((l5, l6, s0, r93, h))))
        else none)
    else none
    else none)
  else none
  else none
def WF_putGuest_j62 (l0 l1 l2 l3 l4 l5 s0 : Int) (h : Hp) : Option ((Int × Hp) ⊕ ((Int × Int × Int × Int × Hp) ⊕ (Hp))) :=
  if l3 = 0 then
    WF_putGuest_j77 l0 l1 l2 l3 l4 l5 s0 l5 h
  else
    if kK l0 = 9 then
    WF_putGuest_j77 l0 l1 l2 l3 l4 l5 s0 (h l0 13) h
    else none
def WF_putGuest_L40 (l0 l1 l2 l3 l4 : Int) (l5 : Int) (h : Hp) : Option ((Int × Hp) ⊕ ((Int × Int × Int × Int × Hp) ⊕ (Hp))) :=
  if kK l0 = 9 then
  if h l0 11 < l5 then
    some (.inr (.inr (h)))
  else
    WF_putGuest_j62 l0 l1 l2 l3 l4 l5 ((if l3 = 0 then l5 else h l0 12)) h
  else none
def WF_putGuest_j38 (l0 l1 l2 l3 l4 s0 : Int) (h : Hp) : Option ((Int × Hp) ⊕ ((Int × Int × Int × Int × Int × Hp) ⊕ (Hp))) :=
  ob (loopN (fun q => WF_putGuest_L40 l0 l1 l2 l3 l4 q.1 q.2) LN (s0, h)) (fun q40 =>
    match q40 with
    | .inl e149 =>
      some (.inr (.inl ((l4, e149.1, e149.2.1, e149.2.2.1, e149.2.2.2.1, e149.2.2.2.2))))
    | .inr e268 =>
      some (.inl (w32 (l4 + 1), e268)))
def WF_putGuest_L16 (l0 l1 l2 l3 : Int) (l4 : Int) (h : Hp) : Option ((Int × Hp) ⊕ ((Int × Int × Int × Int × Int × Hp) ⊕ (Hp))) :=
  if kK l0 = 9 then
  if h l0 12 < l4 then
    some (.inr (.inr (h)))
  else
    WF_putGuest_j38 l0 l1 l2 l3 l4 ((if l3 = 0 then l4 else h l0 13)) h
  else none
def WF_putGuest (l0 l1 l2 : Int) (h : Hp) : Option (Int × Hp) :=
  if kK l0 = 9 then
  if kK (h l0 1) = 3 then
  if kK (h (h l0 1) 15) = 23 ∧ (0 : Int) ≤ l1 ∧ l1 < kL (h (h l0 1) 15) then
  ob (loopN (fun q => WF_putGuest_L16 l0 l1 l2 (h (h (h l0 1) 15) l1) q.1 q.2) LN (h l0 10, h)) (fun q16 =>
    match q16 with
    | .inl e149 =>
      ob (WF_cover e149.1 e149.2.1 e149.2.2.1 e149.2.2.2.1) (fun r167 =>
        if e149.2.2.2.2.1 ≠ 0 then
        ob (WF_push l0 (e149.2.2.2.2.2 l0 7) (e149.2.2.2.2.2 l0 8) 0 r167 (w64 (Int.tmod (e149.2.2.2.2.2 l0 9) e149.2.2.2.2.1)) e149.2.2.2.2.2) (fun r177 =>
          if kK (r177 l0 2) = 8 then
          ob (Wy_addStep (r177 l0 2) l2 (r177 l0 7) (r177 l0 8) r177) (fun r193 =>
            ob (WF_cover (r193.2 l0 10) (r193.2 l0 11) e149.1 e149.2.1) (fun r215 =>
              ob (WF_push l0 r193.1 0 1 r215 (w64 (Int.tdiv (r193.2 l0 9) e149.2.2.2.2.1)) r193.2) (fun r225 =>
                some (1, r225))))
          else none)
        else none)
    | .inr e274 =>
      some (0, e274))
  else none
  else none
  else none
def WF_goAbove_j145 (l0 l1 l2 l3 : Int) (h : Hp) : Option ((Int × Hp) ⊕ ((Hp) ⊕ (Hp))) :=
  some (.inl (w32 (l3 + 1), h))
def WF_goAbove_L115 (l0 l1 l2 : Int) (l3 : Int) (h : Hp) : Option ((Int × Hp) ⊕ ((Hp) ⊕ (Hp))) :=
  if kK l0 = 9 then
  if kK (h l0 1) = 3 then
  if h (h l0 1) 0 ≤ l3 then
    some (.inr (.inr (h)))
  else
    if i_and (i_shr l2 l3) 1 = 1 then
      ob (WF_putGuest l0 l1 l3 h) (fun r138 =>
        if r138.1 = 0 then
          WF_goAbove_j145 l0 l1 l2 l3 r138.2
        else
          some (.inr (.inl (r138.2))))
    else
      WF_goAbove_j145 l0 l1 l2 l3 h
  else none
  else none
def WF_goAbove_j95 (l0 l1 : Int) (h : Hp) : Option (Hp) :=
  if kK l0 = 9 then
  if kK (h l0 1) = 3 then
  if kK (h (h l0 1) 9) = 21 ∧ (0 : Int) ≤ l1 ∧ l1 < kL (h (h l0 1) 9) then
  if kK (h (h l0 1) 18) = 21 ∧ (0 : Int) ≤ h (h (h l0 1) 9) l1 ∧ h (h (h l0 1) 9) l1 < kL (h (h l0 1) 18) then
  ob (loopN (fun q => WF_goAbove_L115 l0 l1 (h (h (h l0 1) 18) (h (h (h l0 1) 9) l1)) q.1 q.2) LN (0, h)) (fun q115 =>
    match q115 with
    | .inl e144 =>
      some e144
    | .inr e151 =>
      some e151)
  else none
  else none
  else none
  else none
def WF_goAbove (l0 l1 : Int) (h : Hp) : Option (Hp) :=
  if kK l0 = 9 then
  if kK (h l0 1) = 3 then
  if kK (h (h l0 1) 10) = 21 ∧ (0 : Int) ≤ l1 ∧ l1 < kL (h (h l0 1) 10) then
  if h (h (h l0 1) 10) l1 = 2 then
    WF_goAbove_j95 l0 l1 h
  else
    if kK (h l0 0) = 1 then
    ob (Ch_value (h l0 0) l1 0 (h l0 10) (h l0 11) (h l0 12) (h l0 13) h) (fun r35 =>
      if r35 ≤ h l0 9 then
        let h_1 := hput h l0 9 (w64 ((h l0 9) - r35))
        WF_goAbove_j95 l0 l1 h_1
      else
        ob (WF_cover (h l0 10) (h l0 11) (h l0 12) (h l0 13)) (fun r74 =>
          ob (WF_push l0 (h l0 7) (h l0 8) 0 r74 (h l0 9) h) (fun r81 =>
            some r81)))
    else none
  else none
  else none
  else none
def WF_valueOf (l0 l1 l2 : Int) (h : Hp) : Option (Int) :=
  if kK l0 = 9 then
  if kK (h l0 0) = 1 then
  ob (Ch_value (h l0 0) l1 1 (i_and (i_shr l2 12) 15) (i_and (i_shr l2 8) 15) (i_and (i_shr l2 4) 15) (i_and l2 15) h) (fun r30 =>
    some r30)
  else none
  else none
def WF_goBelow_j333 (l0 l2 l3 l4 l5 l6 l7 s0 s1 s2 : Int) (h : Hp) : Option ((Int × Hp) ⊕ ((Int × Int × Int × Hp) ⊕ (Hp))) :=
  if kK s2 = 9 then
  let h_1 := hput h s2 9 (w64 (s1 - s0))
  some (.inl (w32 (l7 + 1), h_1))
  else none
def WF_goBelow_j332 (l0 l2 l3 l4 l5 l6 l7 s0 s1 : Int) (h : Hp) : Option ((Int × Hp) ⊕ ((Int × Int × Int × Hp) ⊕ (Hp))) :=
  WF_goBelow_j333 l0 l2 l3 l4 l5 l6 l7 0 s0 s1 h
def WF_goBelow_j305 (l0 l2 l3 l4 l5 l6 l7 l10 l12 : Int) (h : Hp) : Option ((Int × Hp) ⊕ ((Int × Int × Int × Hp) ⊕ (Hp))) :=
  if kK l0 = 9 then
  if l12 ≤ 0 then
    WF_goBelow_j332 l0 l2 l3 l4 l5 l6 l7 (h l0 9) l0 h
  else
    if l10 ≤ 0 then
      WF_goBelow_j332 l0 l2 l3 l4 l5 l6 l7 (h l0 9) l0 h
    else
      WF_goBelow_j333 l0 l2 l3 l4 l5 l6 l7 (w64 (l12 * l10)) (h l0 9) l0 h
  else none
def WF_goBelow_j220 (l0 l2 l3 l4 l5 l6 l7 l8 s0 : Int) (h : Hp) : Option ((Int × Hp) ⊕ ((Int × Int × Int × Hp) ⊕ (Hp))) :=
  if kK l0 = 9 then
  ob (WF_valueOf l0 l3 l8 h) (fun r226 =>
    ob (WF_valueOf l0 l4 s0 h) (fun r236 =>
      if r236 ≤ 0 then
        WF_goBelow_j305 l0 l2 l3 l4 l5 l6 l7 r226 r236 h
      else
        if r236 ≠ 0 then
        if r226 ≤ w64 (Int.tdiv (h l0 9) r236) then
          WF_goBelow_j305 l0 l2 l3 l4 l5 l6 l7 r226 r236 h
        else
          some (.inr (.inl ((l8, s0, r236, h))))
        else none))
  else none
def WF_goBelow_j176 (l0 l2 l3 l4 l5 l6 l7 s0 : Int) (h : Hp) : Option ((Int × Hp) ⊕ ((Int × Int × Int × Hp) ⊕ (Hp))) :=
  if l5 = 0 then
    if kK l0 = 9 then
    ob (WF_cover l7 (h l0 11) (h l0 12) (h l0 13)) (fun r217 =>
      WF_goBelow_j220 l0 l2 l3 l4 l5 l6 l7 s0 r217 h)
    else none
  else
    if kK l0 = 9 then
    ob (WF_cover l7 (h l0 11) (h l0 11) (h l0 11)) (fun r197 =>
      WF_goBelow_j220 l0 l2 l3 l4 l5 l6 l7 s0 r197 h)
    else none
def WF_goBelow_L131 (l0 l2 l3 l4 l5 l6 : Int) (l7 : Int) (h : Hp) : Option ((Int × Hp) ⊕ ((Int × Int × Int × Hp) ⊕ (Hp))) :=
  if l6 < l7 then
    some (.inr (.inr (h)))
  else
    if l5 = 0 then
      if kK l0 = 9 then
      ob (WF_cover (h l0 10) l7 l7 l7) (fun r173 =>
        WF_goBelow_j176 l0 l2 l3 l4 l5 l6 l7 r173 h)
      else none
    else
      if kK l0 = 9 then
      ob (WF_cover (h l0 10) l7 (h l0 12) (h l0 13)) (fun r157 =>
        WF_goBelow_j176 l0 l2 l3 l4 l5 l6 l7 r157 h)
      else none
def WF_goBelow_j129 (l0 l2 l3 l4 l5 l6 s0 : Int) (h : Hp) : Option (Hp) :=
  ob (loopN (fun q => WF_goBelow_L131 l0 l2 l3 l4 l5 l6 q.1 q.2) LN (s0, h)) (fun q131 =>
    match q131 with
    | .inl e261 =>
      if kK l0 = 9 then
      if e261.2.2.1 ≠ 0 then
      ob (WF_push l0 (e261.2.2.2 l0 7) (w32 (l4 - l2)) 1 e261.2.1 (w64 (Int.tmod (e261.2.2.2 l0 9) e261.2.2.1)) e261.2.2.2) (fun r280 =>
        ob (WF_push l0 (r280 l0 7) (w32 (l3 - l2)) 1 e261.1 (w64 (Int.tdiv (r280 l0 9) e261.2.2.1)) r280) (fun r301 =>
          some r301))
      else none
      else none
    | .inr e343 =>
      some e343)
def WF_goBelow_j111 (l0 l2 l3 l4 l5 s0 : Int) (h : Hp) : Option (Hp) :=
  if l5 = 0 then
    if kK l0 = 9 then
    WF_goBelow_j129 l0 l2 l3 l4 l5 s0 (h l0 10) h
    else none
  else
    if kK l0 = 9 then
    WF_goBelow_j129 l0 l2 l3 l4 l5 s0 (h l0 13) h
    else none
def WF_goBelow (l0 l1 : Int) (h : Hp) : Option (Hp) :=
  if kK l0 = 9 then
  if kK (h l0 1) = 3 then
  if kK (h l0 2) = 8 then
  if kK (h (h l0 2) 4) = 21 ∧ (0 : Int) ≤ h l0 7 ∧ h l0 7 < kL (h (h l0 2) 4) then
  if kK (h (h l0 1) 6) = 21 ∧ (0 : Int) ≤ h (h (h l0 2) 4) (h l0 7) ∧ h (h (h l0 2) 4) (h l0 7) < kL (h (h l0 1) 6) then
  if kK (h (h l0 1) 11) = 21 ∧ (0 : Int) ≤ l1 ∧ l1 < kL (h (h l0 1) 11) then
  if kK (h (h l0 1) 12) = 21 ∧ (0 : Int) ≤ l1 ∧ l1 < kL (h (h l0 1) 12) then
  if h (h (h l0 1) 12) l1 = (-1) then
    ob (WF_cover (h l0 10) (h l0 11) (h l0 12) (h l0 13)) (fun r73 =>
      ob (WF_push l0 (h l0 7) (w32 ((h (h (h l0 1) 11) l1) - (h (h (h l0 1) 6) (h (h (h l0 2) 4) (h l0 7))))) 1 r73 (h l0 9) h) (fun r80 =>
        some r80))
  else
    if kK (h (h l0 1) 15) = 23 ∧ (0 : Int) ≤ h (h (h l0 1) 11) l1 ∧ h (h (h l0 1) 11) l1 < kL (h (h l0 1) 15) then
    WF_goBelow_j111 l0 (h (h (h l0 1) 6) (h (h (h l0 2) 4) (h l0 7))) (h (h (h l0 1) 11) l1) (h (h (h l0 1) 12) l1) (h (h (h l0 1) 15) (h (h (h l0 1) 11) l1)) ((if h (h (h l0 1) 15) (h (h (h l0 1) 11) l1) = 0 then h l0 12 else h l0 11)) h
    else none
  else none
  else none
  else none
  else none
  else none
  else none
  else none
def WF_pop (l0 : Int) (h : Hp) : Option (Int × Hp) :=
  if kK l0 = 9 then
  let h_1 := hput h l0 3 (w32 ((h l0 3) - 1))
  if kK (h_1 l0 4) = 21 ∧ (0 : Int) ≤ h_1 l0 3 ∧ h_1 l0 3 < kL (h_1 l0 4) then
  if kK (h_1 l0 5) = 21 ∧ (0 : Int) ≤ h_1 l0 3 ∧ h_1 l0 3 < kL (h_1 l0 5) then
  if kK (h_1 l0 6) = 22 ∧ (0 : Int) ≤ h_1 l0 3 ∧ h_1 l0 3 < kL (h_1 l0 6) then
  let h_2 := hput h_1 l0 9 (h_1 (h_1 l0 6) (h_1 l0 3))
  let h_3 := hput h_2 l0 7 (w32 (Int.tdiv (i_shr (h_1 (h_1 l0 4) (h_1 l0 3)) 1) 12))
  let h_4 := hput h_3 l0 8 (w32 (Int.tmod (i_shr (h_1 (h_1 l0 4) (h_1 l0 3)) 1) 12))
  let h_5 := hput h_4 l0 10 (i_and (i_shr (h_1 (h_1 l0 5) (h_1 l0 3)) 12) 15)
  let h_6 := hput h_5 l0 11 (i_and (i_shr (h_1 (h_1 l0 5) (h_1 l0 3)) 8) 15)
  let h_7 := hput h_6 l0 12 (i_and (i_shr (h_1 (h_1 l0 5) (h_1 l0 3)) 4) 15)
  let h_8 := hput h_7 l0 13 (i_and (h_1 (h_1 l0 5) (h_1 l0 3)) 15)
  some (i_and (h_1 (h_1 l0 4) (h_1 l0 3)) 1, h_8)
  else none
  else none
  else none
  else none
def WF_putHost_j127 (l0 l1 l2 l3 l4 : Int) (h : Hp) : Option ((Int × Hp) ⊕ ((Int × Hp) ⊕ (Hp))) :=
  some (.inl (w32 (l4 + 1), h))
def WF_putHost_L3 (l0 l1 l2 l3 : Int) (l4 : Int) (h : Hp) : Option ((Int × Hp) ⊕ ((Int × Hp) ⊕ (Hp))) :=
  if kK l0 = 9 then
  if kK (h l0 1) = 3 then
  if h (h l0 1) 0 ≤ l4 then
    some (.inr (.inr (h)))
  else
    if i_and (i_shr l1 l4) 1 = 1 then
      if kK (h (h l0 1) 6) = 21 ∧ (0 : Int) ≤ l4 ∧ l4 < kL (h (h l0 1) 6) then
      if kK (h l0 0) = 1 then
      ob (Ch_value (h l0 0) (h (h (h l0 1) 6) l4) 1 (h l0 10) (h l0 11) (h l0 11) (h l0 11) h) (fun r56 =>
        if r56 ≤ h l0 9 then
          let h_1 := hput h l0 9 (w64 ((h l0 9) - r56))
          WF_putHost_j127 l0 l1 l2 l3 l4 h_1
        else
          some (.inr (.inl ((l4, h)))))
      else none
      else none
    else
      WF_putHost_j127 l0 l1 l2 l3 l4 h
  else none
  else none
def WF_putHost (l0 l1 l2 l3 : Int) (h : Hp) : Option (Hp) :=
  ob (loopN (fun q => WF_putHost_L3 l0 l1 l2 l3 q.1 q.2) LN (0, h)) (fun q3 =>
    match q3 with
    | .inl e71 =>
      if kK l0 = 9 then
      if kK (e71.2 l0 2) = 8 then
      ob (Wy_addStep (e71.2 l0 2) e71.1 l2 l3 e71.2) (fun r79 =>
        ob (WF_cover (r79.2 l0 10) (r79.2 l0 11) (r79.2 l0 11) (r79.2 l0 11)) (fun r105 =>
          ob (WF_push l0 r79.1 0 1 r105 (r79.2 l0 9) r79.2) (fun r112 =>
            some r112)))
      else none
      else none
    | .inr e133 =>
      some e133)
def WF_find_j207 (l0 l5 : Int) (h : Hp) : Option ((Int × Hp) ⊕ (Hp)) :=
  some (.inl (w32 (l5 + 1), h))
def WF_find_j188 (l0 l5 l7 : Int) (h : Hp) : Option ((Int × Hp) ⊕ (Hp)) :=
  if kK l0 = 9 then
  if kK (h l0 1) = 3 then
  if kK (h (h l0 1) 8) = 21 ∧ (0 : Int) ≤ l7 ∧ l7 < kL (h (h l0 1) 8) then
  if h (h (h l0 1) 8) l7 = 0 then
    ob (WF_goBelow l0 l7 h) (fun r204 =>
      WF_find_j207 l0 l5 r204)
  else
    WF_find_j207 l0 l5 h
  else none
  else none
  else none
def WF_find_L65 (l0 : Int) (l5 : Int) (h : Hp) : Option ((Int × Hp) ⊕ (Hp)) :=
  if 4096 ≤ l5 then
    some (.inr h)
  else
    if kK l0 = 9 then
    if h l0 3 ≤ 0 then
      some (.inr h)
    else
      ob (WF_pop l0 h) (fun r81 =>
        if kK (r81.2 l0 1) = 3 then
        if kK (r81.2 l0 2) = 8 then
        if kK (r81.2 (r81.2 l0 2) 4) = 21 ∧ (0 : Int) ≤ r81.2 l0 7 ∧ r81.2 l0 7 < kL (r81.2 (r81.2 l0 2) 4) then
        if kK (r81.2 (r81.2 l0 1) 6) = 21 ∧ (0 : Int) ≤ r81.2 (r81.2 (r81.2 l0 2) 4) (r81.2 l0 7) ∧ r81.2 (r81.2 (r81.2 l0 2) 4) (r81.2 l0 7) < kL (r81.2 (r81.2 l0 1) 6) then
        if kK (r81.2 (r81.2 l0 1) 8) = 21 ∧ (0 : Int) ≤ w32 ((r81.2 (r81.2 (r81.2 l0 1) 6) (r81.2 (r81.2 (r81.2 l0 2) 4) (r81.2 l0 7))) + (r81.2 l0 8)) ∧ w32 ((r81.2 (r81.2 (r81.2 l0 1) 6) (r81.2 (r81.2 (r81.2 l0 2) 4) (r81.2 l0 7))) + (r81.2 l0 8)) < kL (r81.2 (r81.2 l0 1) 8) then
        if r81.2 (r81.2 (r81.2 l0 1) 8) (w32 ((r81.2 (r81.2 (r81.2 l0 1) 6) (r81.2 (r81.2 (r81.2 l0 2) 4) (r81.2 l0 7))) + (r81.2 l0 8))) = 4 then
          if kK (r81.2 (r81.2 l0 1) 9) = 21 ∧ (0 : Int) ≤ w32 ((r81.2 (r81.2 (r81.2 l0 1) 6) (r81.2 (r81.2 (r81.2 l0 2) 4) (r81.2 l0 7))) + (r81.2 l0 8)) ∧ w32 ((r81.2 (r81.2 (r81.2 l0 1) 6) (r81.2 (r81.2 (r81.2 l0 2) 4) (r81.2 l0 7))) + (r81.2 l0 8)) < kL (r81.2 (r81.2 l0 1) 9) then
          if kK (r81.2 (r81.2 l0 1) 17) = 21 ∧ (0 : Int) ≤ r81.2 (r81.2 (r81.2 l0 1) 9) (w32 ((r81.2 (r81.2 (r81.2 l0 1) 6) (r81.2 (r81.2 (r81.2 l0 2) 4) (r81.2 l0 7))) + (r81.2 l0 8))) ∧ r81.2 (r81.2 (r81.2 l0 1) 9) (w32 ((r81.2 (r81.2 (r81.2 l0 1) 6) (r81.2 (r81.2 (r81.2 l0 2) 4) (r81.2 l0 7))) + (r81.2 l0 8))) < kL (r81.2 (r81.2 l0 1) 17) then
          ob (WF_putHost l0 (r81.2 (r81.2 (r81.2 l0 1) 17) (r81.2 (r81.2 (r81.2 l0 1) 9) (w32 ((r81.2 (r81.2 (r81.2 l0 1) 6) (r81.2 (r81.2 (r81.2 l0 2) 4) (r81.2 l0 7))) + (r81.2 l0 8))))) (r81.2 l0 7) (r81.2 l0 8) r81.2) (fun r154 =>
            WF_find_j207 l0 l5 r154)
          else none
          else none
        else
          if r81.2 (r81.2 (r81.2 l0 1) 8) (w32 ((r81.2 (r81.2 (r81.2 l0 1) 6) (r81.2 (r81.2 (r81.2 l0 2) 4) (r81.2 l0 7))) + (r81.2 l0 8))) = 0 then
            if r81.1 = 1 then
              ob (WF_goAbove l0 (w32 ((r81.2 (r81.2 (r81.2 l0 1) 6) (r81.2 (r81.2 (r81.2 l0 2) 4) (r81.2 l0 7))) + (r81.2 l0 8))) r81.2) (fun r182 =>
                WF_find_j207 l0 l5 r182)
            else
              WF_find_j188 l0 l5 (w32 ((r81.2 (r81.2 (r81.2 l0 1) 6) (r81.2 (r81.2 (r81.2 l0 2) 4) (r81.2 l0 7))) + (r81.2 l0 8))) r81.2
          else
            WF_find_j188 l0 l5 (w32 ((r81.2 (r81.2 (r81.2 l0 1) 6) (r81.2 (r81.2 (r81.2 l0 2) 4) (r81.2 l0 7))) + (r81.2 l0 8))) r81.2
        else none
        else none
        else none
        else none
        else none)
    else none
def WF_find (l0 l1 l2 l4 : Int) (h : Hp) : Option (Hp) :=
  if kK l0 = 9 then
  let h_1 := hput h l0 0 l1
  if kK l1 = 1 then
  let h_2 := hput h_1 l0 1 (h_1 l1 0)
  let h_3 := hput h_2 l0 2 l4
  if kK (h_3 l0 2) = 8 then
  ob (Wy_clear (h_3 l0 2) h_3) (fun r23 =>
    let h_4 := hput r23 l0 3 0
    let h_5 := hput h_4 l0 10 0
    let h_6 := hput h_5 l0 11 (h_5 l1 1)
    let h_7 := hput h_6 l0 9 l2
    if kK (h_7 l0 1) = 3 then
    ob (Gr_hostsAtStart (h_7 l0 1) h_7) (fun r54 =>
      ob (WF_putHost l0 r54 ((-1)) ((-1)) h_7) (fun r59 =>
        ob (loopN (fun q => WF_find_L65 l0 q.1 q.2) LN (0, r59)) (fun e213 =>
          some e213)))
    else none)
  else none
  else none
  else none
def X_feed (l0 l1 l2 l3 l4 l5 : Int) (h : Hp) : Option (Int × Hp) :=
  if kK l0 = 10 then
  if kK (h l0 0) = 0 then
  ob (By_room (h l0 0) h) (fun r4 =>
    if 20 ≤ r4 then
      ob (By_addFour (h l0 0) l1 h) (fun r19 =>
        if kK (r19 l0 0) = 0 then
        ob (By_addFour (r19 l0 0) l2 r19) (fun r27 =>
          if kK (r27 l0 0) = 0 then
          ob (By_addFour (r27 l0 0) l3 r27) (fun r35 =>
            if kK (r35 l0 0) = 0 then
            ob (By_addFour (r35 l0 0) l4 r35) (fun r44 =>
              if kK (r44 l0 0) = 0 then
              ob (By_addFour (r44 l0 0) l5 r44) (fun r53 =>
                if kK (r53 l0 0) = 0 then
                some (r53 (r53 l0 0) 1, r53)
                else none)
              else none)
            else none)
          else none)
        else none)
    else
      some ((-1), h))
  else none
  else none
def X_end (l0 l1 : Int) (h : Hp) : Option (Int × Hp) :=
  if l1 < 0 then
    some ((-1), h)
  else
    if kK l0 = 10 then
    if kK (h l0 0) = 0 then
    if l1 ≤ h (h l0 0) 1 then
      let h_1 := hput h (h l0 0) 1 l1
      some (l1, h_1)
    else
      some ((-1), h)
    else none
    else none
def X_grammar (l0 : Int) (h : Hp) : Option (Int × Hp) :=
  if kK l0 = 10 then
  if kK (h l0 3) = 4 then
  ob (GR_readText (h l0 3) (h l0 0) (h l0 16) h) (fun r12 =>
    if kK (r12.2 l0 0) = 0 then
    let h_1 := hput r12.2 (r12.2 l0 0) 1 0
    if r12.1 = 0 then
      some ((-4), h_1)
    else
      if h_1 l0 15 ≠ -1 then
      let h_2 := hput h_1 l0 15 (h_1 l0 16)
      let h_3 := hput h_2 l0 16 (h_1 l0 15)
      let h_4 := hput h_3 l0 17 0
      if kK (h_4 l0 15) = 3 then
      some (h_4 (h_4 l0 15) 0, h_4)
      else none
      else none
    else none)
  else none
  else none
def X_fault (l0 l1 : Int) (h : Hp) : Option (Int) :=
  if l1 = 0 then
    if kK l0 = 10 then
    if kK (h l0 3) = 4 then
    some (h (h l0 3) 0)
    else none
    else none
  else
    if l1 = 1 then
      if kK l0 = 10 then
      if kK (h l0 3) = 4 then
      some (h (h l0 3) 1)
      else none
      else none
    else
      some ((-1))
def X_say_L20 (l0 : Int) (h : Hp) (l1 l2 : Int) : Option ((Int × Int) ⊕ (Int)) :=
  if kK l0 = 10 then
  if kK (h l0 0) = 0 then
  if h (h l0 0) 1 ≤ l2 then
    some (.inr l1)
  else
    if l1 = 0 then
      some (.inr l1)
    else
      ob (By_at (h l0 0) l2 h) (fun r40 =>
        ob (X_isLetter r40) (fun r43 =>
          some (.inl (r43, w32 (l2 + 1)))))
  else none
  else none
def X_say_L86 (l0 l2 : Int) (l3 : Int) (h : Hp) : Option ((Int × Hp) ⊕ (Hp)) :=
  if l2 ≤ l3 then
    some (.inr h)
  else
    if kK l0 = 10 then
    if kK (h l0 0) = 0 then
    if kK (h (h l0 0) 0) = 20 ∧ (0 : Int) ≤ l3 ∧ l3 < kL (h (h l0 0) 0) then
    if kK (h l0 2) = 0 then
    ob (By_add (h l0 2) (w32 ((h (h (h l0 0) 0) l3) - 97)) h) (fun r107 =>
      some (.inl (w32 (l3 + 1), r107)))
    else none
    else none
    else none
    else none
def X_say_j17 (l0 s0 : Int) (h : Hp) : Option (Int × Hp) :=
  ob (loopN (fun q => X_say_L20 l0 h q.1 q.2) LN (s0, 0)) (fun e53 =>
    if kK l0 = 10 then
    if kK (h l0 0) = 0 then
    let h_1 := hput h (h l0 0) 1 0
    if e53 = 0 then
      some ((-4), h_1)
    else
      if kK (h_1 l0 2) = 0 then
      let h_2 := hput h_1 (h_1 l0 2) 1 0
      ob (loopN (fun q => X_say_L86 l0 (h (h l0 0) 1) q.1 q.2) LN (0, h_2)) (fun e116 =>
        let h_3 := hput e116 l0 17 (i_and (e116 l0 17) 31)
        some (h (h l0 0) 1, h_3))
      else none
    else none
    else none)
def X_say (l0 : Int) (h : Hp) : Option (Int × Hp) :=
  if kK l0 = 10 then
  if kK (h l0 0) = 0 then
  X_say_j17 l0 ((if 8 < h (h l0 0) 1 then 0 else 1)) h
  else none
  else none
def X_count (l0 l1 : Int) (h : Hp) : Option (Int) :=
  if l1 = 0 then
    if kK l0 = 10 then
    if kK (h l0 15) = 3 then
    some (h (h l0 15) 0)
    else none
    else none
  else
    if l1 = 1 then
      if kK l0 = 10 then
      if kK (h l0 15) = 3 then
      some (h (h l0 15) 1)
      else none
      else none
    else
      if l1 = 2 then
        if kK l0 = 10 then
        if kK (h l0 2) = 0 then
        some (h (h l0 2) 1)
        else none
        else none
      else
        if l1 = 3 then
          if kK l0 = 10 then
          if kK (h l0 15) = 3 then
          some (h (h l0 15) 2)
          else none
          else none
        else
          if l1 = 4 then
            if kK l0 = 10 then
            if kK (h l0 15) = 3 then
            some (h (h l0 15) 3)
            else none
            else none
          else
            if l1 = 5 then
              if kK l0 = 10 then
              if kK (h l0 15) = 3 then
              some (h (h l0 15) 4)
              else none
              else none
            else
              if l1 = 6 then
                if kK l0 = 10 then
                if kK (h l0 15) = 3 then
                ob (Gr_startLabel (h l0 15) h) (fun r108 =>
                  some r108)
                else none
                else none
              else
                if l1 = 7 then
                  if kK l0 = 10 then
                  if kK (h l0 15) = 3 then
                  some (h (h l0 15) 5)
                  else none
                  else none
                else
                  if l1 = 8 then
                    if kK l0 = 10 then
                    if kK (h l0 0) = 0 then
                    some (h (h l0 0) 1)
                    else none
                    else none
                  else
                    if l1 = 9 then
                      if kK l0 = 10 then
                      if kK (h l0 1) = 0 then
                      some (h (h l0 1) 1)
                      else none
                      else none
                    else
                      some ((-1))
def X_tree (l0 l1 l2 : Int) (h : Hp) : Option (Int) :=
  if kK l0 = 10 then
  if kK (h l0 15) = 3 then
  ob (Gr_hasTree (h l0 15) l1 h) (fun r5 =>
    if r5 = 0 then
      some ((-2))
    else
      if l2 = 0 then
        some (i_and (i_shr (h (h l0 15) 3) l1) 1)
      else
        if l2 = 1 then
          ob (Gr_sizeOf (h l0 15) l1 h) (fun r69 =>
            some r69)
        else
          if l2 = 2 then
            if kK (h (h l0 15) 6) = 21 ∧ (0 : Int) ≤ l1 ∧ l1 < kL (h (h l0 15) 6) then
            if kK (h (h l0 15) 9) = 21 ∧ (0 : Int) ≤ h (h (h l0 15) 6) l1 ∧ h (h (h l0 15) 6) l1 < kL (h (h l0 15) 9) then
            some (h (h (h l0 15) 9) (h (h (h l0 15) 6) l1))
            else none
            else none
          else
            if l2 = 3 then
              ob (Gr_firstOfKind (h l0 15) l1 3 h) (fun r97 =>
                some r97)
            else
              if l2 = 4 then
                ob (Gr_firstOfKind (h l0 15) l1 1 h) (fun r107 =>
                  some r107)
              else
                if l2 = 5 then
                  ob (Gr_placesOf (h l0 15) l1 h) (fun r116 =>
                    some r116)
                else
                  some ((-2)))
  else none
  else none
def X_within (l0 l1 : Int) : Option (Int) :=
  some ((if l1 = (-1) then (-1) else w32 (l1 - l0)))
def X_node (l0 l1 l2 l3 : Int) (h : Hp) : Option (Int) :=
  if kK l0 = 10 then
  if kK (h l0 15) = 3 then
  ob (Gr_hasNode (h l0 15) l1 l2 h) (fun r6 =>
    if r6 = 0 then
      some ((-2))
    else
      if kK (h (h l0 15) 6) = 21 ∧ (0 : Int) ≤ l1 ∧ l1 < kL (h (h l0 15) 6) then
      if l3 = 0 then
        if kK (h (h l0 15) 8) = 21 ∧ (0 : Int) ≤ w32 ((h (h (h l0 15) 6) l1) + l2) ∧ w32 ((h (h (h l0 15) 6) l1) + l2) < kL (h (h l0 15) 8) then
        some (h (h (h l0 15) 8) (w32 ((h (h (h l0 15) 6) l1) + l2)))
        else none
      else
        if l3 = 1 then
          if kK (h (h l0 15) 9) = 21 ∧ (0 : Int) ≤ w32 ((h (h (h l0 15) 6) l1) + l2) ∧ w32 ((h (h (h l0 15) 6) l1) + l2) < kL (h (h l0 15) 9) then
          some (h (h (h l0 15) 9) (w32 ((h (h (h l0 15) 6) l1) + l2)))
          else none
        else
          if l3 = 2 then
            if kK (h (h l0 15) 10) = 21 ∧ (0 : Int) ≤ w32 ((h (h (h l0 15) 6) l1) + l2) ∧ w32 ((h (h (h l0 15) 6) l1) + l2) < kL (h (h l0 15) 10) then
            some (h (h (h l0 15) 10) (w32 ((h (h (h l0 15) 6) l1) + l2)))
            else none
          else
            if l3 = 3 then
              if kK (h (h l0 15) 11) = 21 ∧ (0 : Int) ≤ w32 ((h (h (h l0 15) 6) l1) + l2) ∧ w32 ((h (h (h l0 15) 6) l1) + l2) < kL (h (h l0 15) 11) then
              ob (X_within (h (h (h l0 15) 6) l1) (h (h (h l0 15) 11) (w32 ((h (h (h l0 15) 6) l1) + l2)))) (fun r121 =>
                some r121)
              else none
            else
              if l3 = 4 then
                if kK (h (h l0 15) 12) = 21 ∧ (0 : Int) ≤ w32 ((h (h (h l0 15) 6) l1) + l2) ∧ w32 ((h (h (h l0 15) 6) l1) + l2) < kL (h (h l0 15) 12) then
                ob (X_within (h (h (h l0 15) 6) l1) (h (h (h l0 15) 12) (w32 ((h (h (h l0 15) 6) l1) + l2)))) (fun r137 =>
                  some r137)
                else none
              else
                if l3 = 5 then
                  if kK (h (h l0 15) 13) = 21 ∧ (0 : Int) ≤ w32 ((h (h (h l0 15) 6) l1) + l2) ∧ w32 ((h (h (h l0 15) 6) l1) + l2) < kL (h (h l0 15) 13) then
                  ob (X_within (h (h (h l0 15) 6) l1) (h (h (h l0 15) 13) (w32 ((h (h (h l0 15) 6) l1) + l2)))) (fun r153 =>
                    some r153)
                  else none
                else
                  if l3 = 6 then
                    if kK (h (h l0 15) 15) = 23 ∧ (0 : Int) ≤ w32 ((h (h (h l0 15) 6) l1) + l2) ∧ w32 ((h (h (h l0 15) 6) l1) + l2) < kL (h (h l0 15) 15) then
                    some ((if h (h (h l0 15) 15) (w32 ((h (h (h l0 15) 6) l1) + l2)) = 0 then 0 else 1))
                    else none
                  else
                    some ((-2))
      else none)
  else none
  else none
def X_out (l0 l1 l2 : Int) (h : Hp) : Option (Int × Hp) :=
  if kK l0 = 10 then
  if kK (h l0 15) = 3 then
  ob (Gr_hasTree (h l0 15) l1 h) (fun r5 =>
    if r5 = 0 then
      some ((-2), h)
    else
      if l2 < 0 then
        some ((-2), h)
      else
        if l2 ≤ 1 then
          if i_and (i_shr (h (h l0 15) 4) l1) 1 = l2 then
            some (0, h)
          else
            let h_1 := hput h (h l0 15) 4 (i_xor (h (h l0 15) 4) (i_shl 1 l1))
            let h_2 := hput h_1 l0 17 0
            some (1, h_2)
        else
          some ((-2), h))
  else none
  else none
def X_marks (l0 l1 l2 l3 : Int) (h : Hp) : Option (Int × Hp) :=
  if kK l0 = 10 then
  if kK (h l0 15) = 3 then
  ob (Gr_hasNode (h l0 15) l1 l2 h) (fun r6 =>
    if r6 = 0 then
      some ((-2), h)
    else
      if l3 < 0 then
        some ((-2), h)
      else
        if l3 ≤ 2 then
          if kK (h (h l0 15) 6) = 21 ∧ (0 : Int) ≤ l1 ∧ l1 < kL (h (h l0 15) 6) then
          if kK (h (h l0 15) 8) = 21 ∧ (0 : Int) ≤ w32 ((h (h (h l0 15) 6) l1) + l2) ∧ w32 ((h (h (h l0 15) 6) l1) + l2) < kL (h (h l0 15) 8) then
          if h (h (h l0 15) 8) (w32 ((h (h (h l0 15) 6) l1) + l2)) = 0 then
            if kK (h (h l0 15) 10) = 21 ∧ (0 : Int) ≤ w32 ((h (h (h l0 15) 6) l1) + l2) ∧ w32 ((h (h (h l0 15) 6) l1) + l2) < kL (h (h l0 15) 10) then
            let h_1 := hput h (h (h l0 15) 10) (w32 ((h (h (h l0 15) 6) l1) + l2)) l3
            if h (h (h l0 15) 10) (w32 ((h (h (h l0 15) 6) l1) + l2)) = l3 then
              some (h (h (h l0 15) 10) (w32 ((h (h (h l0 15) 6) l1) + l2)), h_1)
            else
              let h_2 := hput h_1 l0 17 0
              some (h (h (h l0 15) 10) (w32 ((h (h (h l0 15) 6) l1) + l2)), h_2)
            else none
          else
            some ((-2), h)
          else none
          else none
        else
          some ((-2), h))
  else none
  else none
def X_isSpan_j25 (h : Hp) : Option (Int) :=
  some 0
def X_isSpan (l0 l1 l2 : Int) (h : Hp) : Option (Int) :=
  if l1 < 0 then
    X_isSpan_j25 h
  else
    if l2 < l1 then
      X_isSpan_j25 h
    else
      if kK l0 = 10 then
      if kK (h l0 2) = 0 then
      if h (h l0 2) 1 < l2 then
        X_isSpan_j25 h
      else
        some 1
      else none
      else none
def X_isGap_j30 (h : Hp) : Option (Int) :=
  some 0
def X_isGap (l0 l1 l2 l3 l4 : Int) (h : Hp) : Option (Int) :=
  if kK l0 = 10 then
  ob (X_isSpan l0 l1 l2 h) (fun r3 =>
    if r3 = 0 then
      X_isGap_j30 h
    else
      if l3 < l1 then
        X_isGap_j30 h
      else
        if l4 < l3 then
          X_isGap_j30 h
        else
          if l2 < l4 then
            X_isGap_j30 h
          else
            some 1)
  else none
def X_learns_j14 (l0 l1 s0 : Int) (h : Hp) : Option (Int × Hp) :=
  if kK l0 = 10 then
  let h_1 := hput h l0 17 (i_or (h l0 17) l1)
  if s0 = 0 ∨ s0 = 1 then
  some (s0, h_1)
  else none
  else none
def X_learns (l0 l1 : Int) (h : Hp) : Option (Int × Hp) :=
  if kK l0 = 10 then
  X_learns_j14 l0 l1 ((if i_and (h l0 17) l1 = 0 then 1 else 0)) h
  else none
def X_knowCounts (l0 : Int) (h : Hp) : Option (Hp) :=
  if kK l0 = 10 then
  ob (X_learns l0 64 h) (fun r3 =>
    if r3.1 = 0 then
      some r3.2
    else
      if kK (r3.2 l0 15) = 3 then
      if kK (r3.2 l0 2) = 0 then
      if kK (r3.2 l0 8) = 1 then
      ob (Ch_fill (r3.2 l0 8) (r3.2 l0 15) (r3.2 (r3.2 l0 15) 4) (r3.2 (r3.2 l0 2) 1) (r3.2 l0 5) r3.2) (fun r35 =>
        some r35)
      else none
      else none
      else none)
  else none
def X_shown (l0 : Int) : Option (Int) :=
  some ((if l0 ≤ 1000000000000000 then l0 else (-3)))
def X_over_j139 (s0 s1 s2 s3 s4 s5 s6 : Int) (h : Hp) : Option (Int × Hp) :=
  if kK s6 = 1 then
  ob (Ch_value s6 s5 s4 s3 s2 s1 s0 h) (fun r139 =>
    ob (X_shown r139) (fun r142 =>
      some (r142, h)))
  else none
def X_over_j127 (l5 l7 l9 s0 s1 s2 s3 s4 s5 : Int) (h : Hp) : Option (Int × Hp) :=
  X_over_j139 ((if l9 = 0 then l5 else l7)) s0 s1 s2 s3 s4 s5 h
def X_over_j100 (l0 l3 l4 l5 l6 l7 l8 l9 : Int) (h : Hp) : Option (Int × Hp) :=
  if kK l0 = 10 then
  ob (X_knowCounts l0 h) (fun r101 =>
    X_over_j127 l5 l7 l9 ((if l9 = 0 then l5 else l6)) l5 l4 l3 l8 (r101 l0 8) r101)
  else none
def X_over (l0 l1 l2 l3 l4 l5 l6 l7 : Int) (h : Hp) : Option (Int × Hp) :=
  if kK l0 = 10 then
  if kK (h l0 15) = 3 then
  ob (Gr_hasNode (h l0 15) l1 l2 h) (fun r6 =>
    if r6 = 0 then
      some ((-2), h)
    else
      if l3 < 0 then
        some ((-2), h)
      else
        if l3 ≤ 1 then
          if kK (h (h l0 15) 6) = 21 ∧ (0 : Int) ≤ l1 ∧ l1 < kL (h (h l0 15) 6) then
          if kK (h (h l0 15) 15) = 23 ∧ (0 : Int) ≤ w32 ((h (h (h l0 15) 6) l1) + l2) ∧ w32 ((h (h (h l0 15) 6) l1) + l2) < kL (h (h l0 15) 15) then
          if h (h (h l0 15) 15) (w32 ((h (h (h l0 15) 6) l1) + l2)) = 0 then
            ob (X_isSpan l0 l4 l5 h) (fun r78 =>
              if r78 = 0 then
                some ((-2), h)
              else
                if l6 = (-1) then
                  if l7 = (-1) then
                    X_over_j100 l0 l3 l4 l5 l6 l7 (w32 ((h (h (h l0 15) 6) l1) + l2)) (h (h (h l0 15) 15) (w32 ((h (h (h l0 15) 6) l1) + l2))) h
                  else
                    some ((-2), h)
                else
                  some ((-2), h))
          else
            ob (X_isGap l0 l4 l5 l6 l7 h) (fun r64 =>
              if r64 = 0 then
                some ((-2), h)
              else
                X_over_j100 l0 l3 l4 l5 l6 l7 (w32 ((h (h (h l0 15) 6) l1) + l2)) (h (h (h l0 15) 15) (w32 ((h (h (h l0 15) 6) l1) + l2))) h)
          else none
          else none
        else
          some ((-2), h))
  else none
  else none
def X_items (l0 l1 : Int) (h : Hp) : Option (Int × Hp) :=
  if l1 < 0 then
    some ((-2), h)
  else
    if l1 ≤ 1 then
      if kK l0 = 10 then
      ob (X_knowCounts l0 h) (fun r13 =>
        if kK (r13 l0 8) = 1 then
        ob (Ch_itemsOf (r13 l0 8) l1 r13) (fun r21 =>
          some (r21, r13))
        else none)
      else none
    else
      some ((-2), h)
def X_spans (l0 l1 l2 : Int) (h : Hp) : Option (Int × Hp) :=
  if kK l0 = 10 then
  ob (X_isSpan l0 l1 l2 h) (fun r3 =>
    if r3 = 0 then
      some ((-2), h)
    else
      ob (X_knowCounts l0 h) (fun r13 =>
        if kK (r13 l0 15) = 3 then
        if kK (r13 l0 8) = 1 then
        ob (Ch_rootsOver (r13 l0 8) (r13 (r13 l0 15) 2) l1 l2 l2 l2 r13) (fun r31 =>
          some (r31, r13))
        else none
        else none))
  else none
def X_around (l0 l1 l2 l3 l4 : Int) (h : Hp) : Option (Int × Hp) :=
  if kK l0 = 10 then
  ob (X_isGap l0 l1 l2 l3 l4 h) (fun r6 =>
    if r6 = 0 then
      some ((-2), h)
    else
      ob (X_knowCounts l0 h) (fun r16 =>
        if kK (r16 l0 15) = 3 then
        if kK (r16 l0 8) = 1 then
        ob (Ch_rootsOver (r16 l0 8) (r16 (r16 l0 15) 3) l1 l2 l3 l4 r16) (fun r35 =>
          some (r35, r16))
        else none
        else none))
  else none
def X_countedWays (l0 : Int) (h : Hp) : Option (Int × Hp) :=
  if kK l0 = 10 then
  ob (X_knowCounts l0 h) (fun r1 =>
    if kK (r1 l0 2) = 0 then
    if kK (r1 l0 8) = 1 then
    ob (Ch_atStart (r1 l0 8) (r1 (r1 l0 2) 1) r1) (fun r15 =>
      some (r15, r1))
    else none
    else none)
  else none
def X_reads (l0 : Int) (h : Hp) : Option (Int × Hp) :=
  if kK l0 = 10 then
  ob (X_countedWays l0 h) (fun r1 =>
    some ((if r1.1 = 0 then 0 else 1), r1.2))
  else none
def X_heads_j38 (l0 l1 l2 : Int) (h : Hp) : Option ((Int × Int) ⊕ (Int)) :=
  some (.inl (l1, w32 (l2 + 1)))
def X_heads_L8 (l0 : Int) (h : Hp) (l1 l2 : Int) : Option ((Int × Int) ⊕ (Int)) :=
  if kK l0 = 10 then
  if kK (h l0 2) = 0 then
  if h (h l0 2) 1 < l2 then
    some (.inr l1)
  else
    if kK (h l0 8) = 1 then
    ob (Ch_atStart (h l0 8) l2 h) (fun r24 =>
      X_heads_j38 l0 ((if r24 = 0 then l1 else i_or l1 (i_shl 1 l2))) l2 h)
    else none
  else none
  else none
def X_heads (l0 : Int) (h : Hp) : Option (Int × Hp) :=
  if kK l0 = 10 then
  ob (X_knowCounts l0 h) (fun r1 =>
    ob (loopN (fun q => X_heads_L8 l0 r1 q.1 q.2) LN (0, 0)) (fun e44 =>
      some (e44, r1)))
  else none
def X_ways (l0 : Int) (h : Hp) : Option (Int × Hp) :=
  if kK l0 = 10 then
  ob (X_countedWays l0 h) (fun r1 =>
    ob (X_shown r1.1) (fun r4 =>
      some (r4, r1.2)))
  else none
def X_without (l0 l1 : Int) (h : Hp) : Option (Int × Hp) :=
  if kK l0 = 10 then
  if kK (h l0 15) = 3 then
  ob (Gr_hasTree (h l0 15) l1 h) (fun r5 =>
    if r5 = 0 then
      some ((-2), h)
    else
      if kK (h l0 2) = 0 then
      if kK (h l0 9) = 1 then
      ob (Ch_fill (h l0 9) (h l0 15) (i_or (h (h l0 15) 4) (i_shl 1 l1)) (h (h l0 2) 1) (h l0 5) h) (fun r45 =>
        if kK (r45 l0 2) = 0 then
        if kK (r45 l0 9) = 1 then
        ob (Ch_atStart (r45 l0 9) (r45 (r45 l0 2) 1) r45) (fun r59 =>
          ob (X_shown r59) (fun r62 =>
            some (r62, r45)))
        else none
        else none)
      else none
      else none)
  else none
  else none
def X_knowSummary (l0 : Int) (h : Hp) : Option (Hp) :=
  if kK l0 = 10 then
  ob (X_learns l0 128 h) (fun r4 =>
    if r4.1 = 0 then
      some r4.2
    else
      if kK (r4.2 l0 15) = 3 then
      if kK (r4.2 l0 2) = 0 then
      if kK (r4.2 l0 9) = 1 then
      ob (Ch_fill (r4.2 l0 9) (r4.2 l0 15) (r4.2 (r4.2 l0 15) 4) (r4.2 (r4.2 l0 2) 1) (r4.2 l0 6) r4.2) (fun r36 =>
        if kK (r36 l0 2) = 0 then
        if kK (r36 l0 9) = 1 then
        ob (Ch_atStart (r36 l0 9) (r36 (r36 l0 2) 1) r36) (fun r51 =>
          let h_1 := hput r36 l0 18 r51
          some h_1)
        else none
        else none)
      else none
      else none
      else none)
  else none
def X_lengths (l0 l1 : Int) (h : Hp) : Option (Int × Hp) :=
  if l1 < 0 then
    some ((-2), h)
  else
    if l1 ≤ 1 then
      if kK l0 = 10 then
      ob (X_knowSummary l0 h) (fun r13 =>
        if r13 l0 18 = 0 then
          some ((-1), r13)
        else
          if l1 = 0 then
            ob (Su_fewest (r13 l0 18)) (fun r35 =>
              some (r35, r13))
          else
            ob (Su_most (r13 l0 18)) (fun r45 =>
              some (r45, r13)))
      else none
    else
      some ((-2), h)
def X_findWay_j69 (l0 l1 : Int) (h : Hp) : Option (Int × Hp) :=
  if kK l0 = 10 then
  if kK (h l0 11) = 8 then
  let h_1 := hput h (h l0 11) 0 l1
  if kK (h_1 l0 10) = 9 then
  ob (WF_find (h_1 l0 10) (h_1 l0 8) l1 (h_1 l0 11) h_1) (fun r90 =>
    if kK (r90 l0 11) = 8 then
    ob (Wy_unfold (r90 l0 11) (r90 l0 15) r90) (fun r101 =>
      some (0, r101))
    else none)
  else none
  else none
  else none
def X_findWay (l0 l1 : Int) (h : Hp) : Option (Int × Hp) :=
  if 0 ≤ l1 then
    if kK l0 = 10 then
    ob (X_knowCounts l0 h) (fun r10 =>
      if kK (r10 l0 2) = 0 then
      if kK (r10 l0 8) = 1 then
      ob (Ch_atStart (r10 l0 8) (r10 (r10 l0 2) 1) r10) (fun r24 =>
        if r24 ≤ 1000000000000000 then
          if l1 < r24 then
            ob (X_learns l0 256 r10) (fun r51 =>
              if r51.1 = 0 then
                if kK (r51.2 l0 11) = 8 then
                if r51.2 (r51.2 l0 11) 0 = l1 then
                  some (0, r51.2)
                else
                  X_findWay_j69 l0 l1 r51.2
                else none
              else
                X_findWay_j69 l0 l1 r51.2)
          else
            some ((-1), r10)
        else
          some ((-3), r10))
      else none
      else none)
    else none
  else
    some ((-2), h)
def X_steps (l0 l1 : Int) (h : Hp) : Option (Int × Hp) :=
  if kK l0 = 10 then
  ob (X_findWay l0 l1 h) (fun r2 =>
    if 0 ≤ r2.1 then
      if kK (r2.2 l0 11) = 8 then
      some (r2.2 (r2.2 l0 11) 1, r2.2)
      else none
    else
      some (r2.1, r2.2))
  else none
def X_step (l0 l1 l3 l4 : Int) (h : Hp) : Option (Int × Hp) :=
  if kK l0 = 10 then
  ob (X_findWay l0 l1 h) (fun r2 =>
    if 0 ≤ r2.1 then
      if l3 < 0 then
        some ((-2), r2.2)
      else
        if kK (r2.2 l0 11) = 8 then
        if l3 < r2.2 (r2.2 l0 11) 1 then
          if l4 = 0 then
            if kK (r2.2 (r2.2 l0 11) 4) = 21 ∧ (0 : Int) ≤ l3 ∧ l3 < kL (r2.2 (r2.2 l0 11) 4) then
            some (r2.2 (r2.2 (r2.2 l0 11) 4) l3, r2.2)
            else none
          else
            if l4 = 1 then
              if kK (r2.2 (r2.2 l0 11) 5) = 21 ∧ (0 : Int) ≤ l3 ∧ l3 < kL (r2.2 (r2.2 l0 11) 5) then
              some (r2.2 (r2.2 (r2.2 l0 11) 5) l3, r2.2)
              else none
            else
              if l4 = 2 then
                if kK (r2.2 (r2.2 l0 11) 6) = 21 ∧ (0 : Int) ≤ l3 ∧ l3 < kL (r2.2 (r2.2 l0 11) 6) then
                some (r2.2 (r2.2 (r2.2 l0 11) 6) l3, r2.2)
                else none
              else
                if l4 = 3 then
                  if kK (r2.2 (r2.2 l0 11) 7) = 21 ∧ (0 : Int) ≤ l3 ∧ l3 < kL (r2.2 (r2.2 l0 11) 7) then
                  some (r2.2 (r2.2 (r2.2 l0 11) 7) l3, r2.2)
                  else none
                else
                  some ((-2), r2.2)
        else
          some ((-2), r2.2)
        else none
    else
      some (r2.1, r2.2))
  else none
def X_whose (l0 l1 l3 l4 : Int) (h : Hp) : Option (Int × Hp) :=
  if kK l0 = 10 then
  ob (X_findWay l0 l1 h) (fun r2 =>
    if 0 ≤ r2.1 then
      if l3 < 0 then
        some ((-2), r2.2)
      else
        if kK (r2.2 l0 11) = 8 then
        if kK (r2.2 (r2.2 l0 11) 10) = 0 then
        if r2.2 (r2.2 (r2.2 l0 11) 10) 1 ≤ l3 then
          some ((-2), r2.2)
        else
          if l4 < 0 then
            some ((-2), r2.2)
          else
            if l4 ≤ 1 then
              if l4 = 0 then
                if kK (r2.2 (r2.2 l0 11) 11) = 21 ∧ (0 : Int) ≤ l3 ∧ l3 < kL (r2.2 (r2.2 l0 11) 11) then
                some (r2.2 (r2.2 (r2.2 l0 11) 11) l3, r2.2)
                else none
              else
                if kK (r2.2 (r2.2 l0 11) 12) = 21 ∧ (0 : Int) ≤ l3 ∧ l3 < kL (r2.2 (r2.2 l0 11) 12) then
                some (r2.2 (r2.2 (r2.2 l0 11) 12) l3, r2.2)
                else none
            else
              some ((-2), r2.2)
        else none
        else none
    else
      some (r2.1, r2.2))
  else none
def X_arcs (l0 l1 l3 : Int) (h : Hp) : Option (Int × Hp) :=
  if kK l0 = 10 then
  ob (X_findWay l0 l1 h) (fun r2 =>
    if 0 ≤ r2.1 then
      if l3 = 0 then
        if kK (r2.2 l0 11) = 8 then
        ob (Wy_arcCount (r2.2 l0 11) r2.2) (fun r48 =>
          some (r48, r2.2))
        else none
      else
        if l3 = 1 then
          if kK (r2.2 l0 11) = 8 then
          ob (Wy_crossings (r2.2 l0 11) r2.2) (fun r56 =>
            some (r56, r2.2))
          else none
        else
          if l3 = 2 then
            if kK (r2.2 l0 11) = 8 then
            ob (Wy_longestArc (r2.2 l0 11) r2.2) (fun r64 =>
              some (r64, r2.2))
            else none
          else
            some ((-2), r2.2)
    else
      some (r2.1, r2.2))
  else none
def X_grown (l0 l1 l3 : Int) (h : Hp) : Option (Int × Hp) :=
  if kK l0 = 10 then
  ob (X_findWay l0 l1 h) (fun r2 =>
    if 0 ≤ r2.1 then
      if l3 = 0 then
        if kK (r2.2 l0 11) = 8 then
        some (r2.2 (r2.2 l0 11) 2, r2.2)
        else none
      else
        if l3 = 1 then
          if kK (r2.2 l0 11) = 8 then
          some (r2.2 (r2.2 l0 11) 3, r2.2)
          else none
        else
          some ((-2), r2.2)
    else
      some (r2.1, r2.2))
  else none
def X_tell (l0 l1 : Int) (h : Hp) : Option (Int × Hp) :=
  if kK l0 = 10 then
  ob (X_findWay l0 l1 h) (fun r2 =>
    if 0 ≤ r2.1 then
      if kK (r2.2 l0 11) = 8 then
      if kK (r2.2 l0 1) = 0 then
      ob (By_takeFrom (r2.2 l0 1) (r2.2 (r2.2 l0 11) 9) 0 r2.2) (fun r24 =>
        if kK (r24 l0 1) = 0 then
        some (r24 (r24 l0 1) 1, r24)
        else none)
      else none
      else none
    else
      some (r2.1, r2.2))
  else none
def X_tellWay (l0 l1 : Int) (h : Hp) : Option (Int × Hp) :=
  if kK l0 = 10 then
  ob (X_findWay l0 l1 h) (fun r2 =>
    if 0 ≤ r2.1 then
      if kK (r2.2 l0 1) = 0 then
      let h_1 := hput r2.2 (r2.2 l0 1) 1 0
      if kK (h_1 l0 11) = 8 then
      ob (Wy_tellSteps (h_1 l0 11) (h_1 l0 1) h_1) (fun r28 =>
        if kK (r28 l0 1) = 0 then
        some (r28 (r28 l0 1) 1, r28)
        else none)
      else none
      else none
    else
      some (r2.1, r2.2))
  else none
def X_octet (l0 l1 : Int) (h : Hp) : Option (Int) :=
  if kK l0 = 10 then
  if kK (h l0 1) = 0 then
  ob (By_at (h l0 1) l1 h) (fun r5 =>
    some r5)
  else none
  else none
def X_test (l0 : Int) (h : Hp) : Option (Int × Hp) :=
  if kK l0 = 10 then
  if kK (h l0 4) = 6 then
  ob (SR_readText (h l0 4) (h l0 0) h) (fun r8 =>
    if kK (r8.2 l0 0) = 0 then
    let h_1 := hput r8.2 (r8.2 l0 0) 1 0
    if r8.1 = 0 then
      some ((-4), h_1)
    else
      if kK (h_1 l0 4) = 6 then
      ob (SR_putTogether (h_1 l0 4) (h_1 l0 15) (h_1 l0 12) h_1) (fun r39 =>
        if 0 ≤ r39.1 then
          if kK (r39.2 l0 12) = 8 then
          ob (Wy_unfold (r39.2 l0 12) (r39.2 l0 15) r39.2) (fun r57 =>
            if kK (r57 l0 12) = 8 then
            if kK (r57 l0 1) = 0 then
            ob (By_takeFrom (r57 l0 1) (r57 (r57 l0 12) 10) 97 r57) (fun r73 =>
              if kK (r73 l0 12) = 8 then
              if kK (r73 (r73 l0 12) 10) = 0 then
              ob (By_isLike (r73 (r73 l0 12) 10) (r73 l0 2) r73) (fun r87 =>
                some ((if r87 = 0 then 0 else 1), r73))
              else none
              else none)
            else none
            else none)
          else none
        else
          some (r39.1, r39.2))
      else none
    else none)
  else none
  else none
def X_listRead_j114 (l0 l1 l3 l5 : Int) (h : Hp) : Option ((Int × Hp) ⊕ (Hp)) :=
  some (.inl (w32 (l5 + 1), h))
def X_listRead_L46 (l0 l1 l3 : Int) (l5 : Int) (h : Hp) : Option ((Int × Hp) ⊕ (Hp)) :=
  if kK l0 = 10 then
  if kK (h l0 7) = 5 then
  if h (h l0 7) 0 ≤ l5 then
    some (.inr h)
  else
    if l_and (l_shr l3 l5) 1 = 1 then
      if kK (h l0 14) = 21 ∧ (0 : Int) ≤ l1 ∧ l1 < kL (h l0 14) then
      if 256 ≤ h (h l0 14) l1 then
        X_listRead_j114 l0 l1 l3 l5 h
      else
        if kK (h l0 13) = 24 ∧ (0 : Int) ≤ l1 ∧ l1 < kL (h l0 13) then
        if kK (h (h l0 7) 1) = 21 ∧ (0 : Int) ≤ l5 ∧ l5 < kL (h (h l0 7) 1) then
        if kK (h (h l0 13) l1) = 21 ∧ (0 : Int) ≤ h (h l0 14) l1 ∧ h (h l0 14) l1 < kL (h (h l0 13) l1) then
        let h_1 := hput h (h (h l0 13) l1) (h (h l0 14) l1) (h (h (h l0 7) 1) l5)
        if kK (h_1 l0 14) = 21 ∧ (0 : Int) ≤ l1 ∧ l1 < kL (h_1 l0 14) then
        let h_2 := hput h_1 (h_1 l0 14) l1 (w32 ((h_1 (h_1 l0 14) l1) + 1))
        X_listRead_j114 l0 l1 l3 l5 h_2
        else none
        else none
        else none
        else none
      else none
    else
      X_listRead_j114 l0 l1 l3 l5 h
  else none
  else none
def X_listRead (l0 l1 l2 : Int) (h : Hp) : Option (Hp) :=
  if kK l0 = 10 then
  if kK (h l0 7) = 5 then
  if h (h l0 7) 0 = 0 then
    some h
  else
    if kK (h l0 15) = 3 then
    if kK (h l0 9) = 1 then
    ob (Ch_fill (h l0 9) (h l0 15) (h (h l0 15) 4) l2 (h l0 7) h) (fun r31 =>
      if kK (r31 l0 9) = 1 then
      ob (Ch_atStart (r31 l0 9) l2 r31) (fun r39 =>
        ob (loopN (fun q => X_listRead_L46 l0 l1 r39 q.1 q.2) LN (0, r31)) (fun e120 =>
          if kK (e120 l0 7) = 5 then
          ob (Ms_clear (e120 l0 7) e120) (fun r124 =>
            some r124)
          else none))
      else none)
    else none
    else none
  else none
  else none
def X_knowMends_j109 (l0 l1 l2 : Int) (h : Hp) : Option ((Int × Hp) ⊕ (Hp)) :=
  some (.inl (w32 (l2 + 1), h))
def X_knowMends_L39 (l0 l1 : Int) (l2 : Int) (h : Hp) : Option ((Int × Hp) ⊕ (Hp)) :=
  if 26 ≤ l2 then
    some (.inr h)
  else
    if kK l0 = 10 then
    if kK (h l0 15) = 3 then
    if i_and (i_shr (h (h l0 15) 5) l2) 1 = 1 then
      if kK (h l0 2) = 0 then
      ob (By_at (h l0 2) l1 h) (fun r65 =>
        if r65 = l2 then
          X_knowMends_j109 l0 l1 l2 h
        else
          if kK (h l0 7) = 5 then
          ob (Ms_addChange (h l0 7) (h l0 2) l1 l2 h) (fun r82 =>
            if kK (r82 l0 7) = 5 then
            if r82 (r82 l0 7) 0 = 64 then
              if kK (r82 l0 2) = 0 then
              ob (X_listRead l0 5 (r82 (r82 l0 2) 1) r82) (fun r106 =>
                X_knowMends_j109 l0 l1 l2 r106)
              else none
            else
              X_knowMends_j109 l0 l1 l2 r82
            else none)
          else none)
      else none
    else
      X_knowMends_j109 l0 l1 l2 h
    else none
    else none
def X_knowMends_L26 (l0 : Int) (l1 : Int) (h : Hp) : Option ((Int × Hp) ⊕ (Hp)) :=
  if kK l0 = 10 then
  if kK (h l0 2) = 0 then
  if h (h l0 2) 1 ≤ l1 then
    some (.inr h)
  else
    ob (loopN (fun q => X_knowMends_L39 l0 l1 q.1 q.2) LN (0, h)) (fun e115 =>
      some (.inl (w32 (l1 + 1), e115)))
  else none
  else none
def X_knowMends (l0 : Int) (h : Hp) : Option (Hp) :=
  if kK l0 = 10 then
  ob (X_learns l0 32 h) (fun r3 =>
    if r3.1 = 0 then
      some r3.2
    else
      if kK (r3.2 l0 14) = 21 ∧ (0 : Int) ≤ 5 ∧ 5 < kL (r3.2 l0 14) then
      let h_1 := hput r3.2 (r3.2 l0 14) 5 0
      if kK (h_1 l0 7) = 5 then
      ob (Ms_clear (h_1 l0 7) h_1) (fun r21 =>
        ob (loopN (fun q => X_knowMends_L26 l0 q.1 q.2) LN (0, r21)) (fun e121 =>
          if kK (e121 l0 2) = 0 then
          ob (X_listRead l0 5 (e121 (e121 l0 2) 1) e121) (fun r130 =>
            some r130)
          else none))
      else none
      else none)
  else none
def X_mends (l0 : Int) (h : Hp) : Option (Int × Hp) :=
  if kK l0 = 10 then
  ob (X_knowMends l0 h) (fun r1 =>
    if kK (r1 l0 14) = 21 ∧ (0 : Int) ≤ 5 ∧ 5 < kL (r1 l0 14) then
    some (r1 (r1 l0 14) 5, r1)
    else none)
  else none
def X_listedAt_j32 (h : Hp) : Option (Int) :=
  some ((-1))
def X_listedAt (l0 l1 l2 : Int) (h : Hp) : Option (Int) :=
  if l2 < 0 then
    X_listedAt_j32 h
  else
    if kK l0 = 10 then
    if kK (h l0 14) = 21 ∧ (0 : Int) ≤ l1 ∧ l1 < kL (h l0 14) then
    if h (h l0 14) l1 ≤ l2 then
      X_listedAt_j32 h
    else
      if 256 ≤ l2 then
        X_listedAt_j32 h
      else
        if kK (h l0 13) = 24 ∧ (0 : Int) ≤ l1 ∧ l1 < kL (h l0 13) then
        if kK (h (h l0 13) l1) = 21 ∧ (0 : Int) ≤ l2 ∧ l2 < kL (h (h l0 13) l1) then
        some (h (h (h l0 13) l1) l2)
        else none
        else none
    else none
    else none
def X_mend (l0 l1 : Int) (h : Hp) : Option (Int × Hp) :=
  if 0 ≤ l1 then
    if kK l0 = 10 then
    ob (X_knowMends l0 h) (fun r8 =>
      ob (X_listedAt l0 5 l1 r8) (fun r14 =>
        some (r14, r8)))
    else none
  else
    some ((-2), h)
def JI_bitCount (l0 : Int) : Option (Int) :=
  some (i_and (w32 ((w32 ((i_and (w32 ((w32 ((i_and (w32 (l0 - (i_and (i_ushr l0 1) 1431655765))) 858993459) + (i_and (i_ushr (w32 (l0 - (i_and (i_ushr l0 1) 1431655765))) 2) 858993459))) + (i_ushr (w32 ((i_and (w32 (l0 - (i_and (i_ushr l0 1) 1431655765))) 858993459) + (i_and (i_ushr (w32 (l0 - (i_and (i_ushr l0 1) 1431655765))) 2) 858993459))) 4))) 252645135) + (i_ushr (i_and (w32 ((w32 ((i_and (w32 (l0 - (i_and (i_ushr l0 1) 1431655765))) 858993459) + (i_and (i_ushr (w32 (l0 - (i_and (i_ushr l0 1) 1431655765))) 2) 858993459))) + (i_ushr (w32 ((i_and (w32 (l0 - (i_and (i_ushr l0 1) 1431655765))) 858993459) + (i_and (i_ushr (w32 (l0 - (i_and (i_ushr l0 1) 1431655765))) 2) 858993459))) 4))) 252645135) 8))) + (i_ushr (w32 ((i_and (w32 ((w32 ((i_and (w32 (l0 - (i_and (i_ushr l0 1) 1431655765))) 858993459) + (i_and (i_ushr (w32 (l0 - (i_and (i_ushr l0 1) 1431655765))) 2) 858993459))) + (i_ushr (w32 ((i_and (w32 (l0 - (i_and (i_ushr l0 1) 1431655765))) 858993459) + (i_and (i_ushr (w32 (l0 - (i_and (i_ushr l0 1) 1431655765))) 2) 858993459))) 4))) 252645135) + (i_ushr (i_and (w32 ((w32 ((i_and (w32 (l0 - (i_and (i_ushr l0 1) 1431655765))) 858993459) + (i_and (i_ushr (w32 (l0 - (i_and (i_ushr l0 1) 1431655765))) 2) 858993459))) + (i_ushr (w32 ((i_and (w32 (l0 - (i_and (i_ushr l0 1) 1431655765))) 858993459) + (i_and (i_ushr (w32 (l0 - (i_and (i_ushr l0 1) 1431655765))) 2) 858993459))) 4))) 252645135) 8))) 16))) 63)
def X_knowSentences_L41 (l0 l1 l2 : Int) (h : Hp) (l3 l4 : Int) : Option ((Int × Int) ⊕ (Int)) :=
  if l1 ≤ l4 then
    some (.inr l3)
  else
    some (.inl (w32 (l3 * l2), w32 (l4 + 1)))
def X_knowSentences_j102 (l0 l1 l2 l3 l4 : Int) (h : Hp) : Option ((Int × Hp) ⊕ (Hp)) :=
  some (.inl (w32 (l4 + 1), h))
def X_knowSentences_L60 (l0 l1 l2 l3 : Int) (l4 : Int) (h : Hp) : Option ((Int × Hp) ⊕ (Hp)) :=
  if l3 ≤ l4 then
    some (.inr h)
  else
    if kK l0 = 10 then
    if kK (h l0 15) = 3 then
    if kK (h l0 7) = 5 then
    ob (Ms_addSentence (h l0 7) (h (h l0 15) 5) l2 l1 l4 h) (fun r81 =>
      if kK (r81 l0 7) = 5 then
      if r81 (r81 l0 7) 0 = 64 then
        ob (X_listRead l0 l1 l1 r81) (fun r99 =>
          X_knowSentences_j102 l0 l1 l2 l3 l4 r99)
      else
        X_knowSentences_j102 l0 l1 l2 l3 l4 r81
      else none)
    else none
    else none
    else none
def X_knowSentences (l0 l1 : Int) (h : Hp) : Option (Hp) :=
  if kK l0 = 10 then
  ob (X_learns l0 (i_shl 1 l1) h) (fun r4 =>
    if r4.1 = 0 then
      some r4.2
    else
      if kK (r4.2 l0 14) = 21 ∧ (0 : Int) ≤ l1 ∧ l1 < kL (r4.2 l0 14) then
      let h_1 := hput r4.2 (r4.2 l0 14) l1 0
      if kK (h_1 l0 7) = 5 then
      ob (Ms_clear (h_1 l0 7) h_1) (fun r22 =>
        if kK (r22 l0 15) = 3 then
        ob (JI_bitCount (r22 (r22 l0 15) 5)) (fun r32 =>
          ob (loopN (fun q => X_knowSentences_L41 l0 l1 r32 r22 q.1 q.2) LN (1, 0)) (fun e57 =>
            ob (loopN (fun q => X_knowSentences_L60 l0 l1 r32 e57 q.1 q.2) LN (0, r22)) (fun e108 =>
              ob (X_listRead l0 l1 l1 e108) (fun r111 =>
                some r111))))
        else none)
      else none
      else none)
  else none
def X_sentences (l0 l1 : Int) (h : Hp) : Option (Int × Hp) :=
  if l1 < 0 then
    some ((-2), h)
  else
    if l1 ≤ 4 then
      if kK l0 = 10 then
      if kK (h l0 15) = 3 then
      ob (JI_bitCount (h (h l0 15) 5)) (fun r19 =>
        if r19 ≤ 4 then
          ob (X_knowSentences l0 l1 h) (fun r31 =>
            if kK (r31 l0 14) = 21 ∧ (0 : Int) ≤ l1 ∧ l1 < kL (r31 l0 14) then
            some (r31 (r31 l0 14) l1, r31)
            else none)
        else
          some ((-5), h))
      else none
      else none
    else
      some ((-2), h)
def X_sentence (l0 l1 l2 : Int) (h : Hp) : Option (Int × Hp) :=
  if l1 < 0 then
    some ((-2), h)
  else
    if 4 < l1 then
      some ((-2), h)
    else
      if 0 ≤ l2 then
        if kK l0 = 10 then
        if kK (h l0 15) = 3 then
        ob (JI_bitCount (h (h l0 15) 5)) (fun r23 =>
          if r23 ≤ 4 then
            ob (X_knowSentences l0 l1 h) (fun r35 =>
              ob (X_listedAt l0 l1 l2 r35) (fun r41 =>
                some (r41, r35)))
          else
            some ((-5), h))
        else none
        else none
      else
        some ((-2), h)
def X_used (l0 l1 : Int) (h : Hp) : Option (Int × Hp) :=
  if l1 < 0 then
    some ((-2), h)
  else
    if l1 ≤ 1 then
      if kK l0 = 10 then
      ob (X_knowSummary l0 h) (fun r13 =>
        if l1 = 0 then
          ob (Su_some (r13 l0 18)) (fun r24 =>
            some (r24, r13))
        else
          ob (Su_every (r13 l0 18)) (fun r34 =>
            some (r34, r13)))
      else none
    else
      some ((-2), h)
def M_in_j17 : Option (Int) :=
  some 0
def M_in (l0 l2 l4 : Int) : Option (Int) :=
  if l0 < l2 then
    M_in_j17 
  else
    if l4 < l0 then
      M_in_j17 
    else
      some 1
def M_root (l0 l1 : Int) (h : Hp) : Option (Int) :=
  if kK l0 = 11 then
  if kK (h l0 4) = 21 ∧ (0 : Int) ≤ l1 ∧ l1 < kL (h l0 4) then
  some (h (h l0 4) l1)
  else none
  else none
def M_nodesOf (l0 l1 : Int) (h : Hp) : Option (Int) :=
  if kK l0 = 11 then
  if kK (h l0 4) = 21 ∧ (0 : Int) ≤ w32 (l1 + 1) ∧ w32 (l1 + 1) < kL (h l0 4) then
  if kK (h l0 4) = 21 ∧ (0 : Int) ≤ l1 ∧ l1 < kL (h l0 4) then
  some (w32 ((h (h l0 4) (w32 (l1 + 1))) - (h (h l0 4) l1)))
  else none
  else none
  else none
def M_isTree (l0 l1 : Int) (h : Hp) : Option (Int) :=
  if kK l0 = 11 then
  ob (M_in l1 0 (w32 ((h l0 1) - 1))) (fun r10 =>
    if r10 = 0 ∨ r10 = 1 then
    some r10
    else none)
  else none
def M_isNode_j29 (h : Hp) : Option (Int) :=
  some 0
def M_isNode (l0 l1 l2 : Int) (h : Hp) : Option (Int) :=
  if kK l0 = 11 then
  ob (M_isTree l0 l1 h) (fun r2 =>
    if r2 = 0 then
      M_isNode_j29 h
    else
      ob (M_nodesOf l0 l1 h) (fun r13 =>
        ob (M_in l2 0 (w32 (r13 - 1))) (fun r19 =>
          if r19 = 0 then
            M_isNode_j29 h
          else
            some 1)))
  else none
def M_isOut (l0 l1 : Int) (h : Hp) : Option (Int) :=
  if kK l0 = 11 then
  some ((if i_and (i_shr (h l0 3) l1) 1 = 1 then 1 else 0))
  else none
def M_isGuest (l0 l1 : Int) (h : Hp) : Option (Int) :=
  if kK l0 = 11 then
  if kK (h l0 16) = 21 ∧ (0 : Int) ≤ l1 ∧ l1 < kL (h l0 16) then
  some ((if h (h l0 16) l1 = (-1) then 0 else 1))
  else none
  else none
def M_feed_L55 (l0 : Int) (l6 : Int) (h : Hp) : Option ((Int × Hp) ⊕ (Hp)) :=
  if 20 ≤ l6 then
    some (.inr h)
  else
    if kK l0 = 11 then
    if kK (h l0 21) = 21 ∧ (0 : Int) ≤ w32 (Int.tdiv l6 4) ∧ w32 (Int.tdiv l6 4) < kL (h l0 21) then
    if kK (h l0 19) = 20 ∧ (0 : Int) ≤ w32 ((h l0 20) + l6) ∧ w32 ((h l0 20) + l6) < kL (h l0 19) then
    let h_6 := hput h (h l0 19) (w32 ((h l0 20) + l6)) (w8 (w8 (i_shr (h (h l0 21) (w32 (Int.tdiv l6 4))) (w32 (24 - (w32 (8 * (w32 (Int.tmod l6 4)))))))))
    some (.inl (w32 (l6 + 1), h_6))
    else none
    else none
    else none
def M_feed (l0 l1 l2 l3 l4 l5 : Int) (h : Hp) : Option (Int × Hp) :=
  if kK l0 = 11 then
  if w32 ((h l0 20) + 20) ≤ 400 then
    if kK (h l0 21) = 21 ∧ (0 : Int) ≤ 0 ∧ 0 < kL (h l0 21) then
    let h_1 := hput h (h l0 21) 0 l1
    if kK (h_1 l0 21) = 21 ∧ (0 : Int) ≤ 1 ∧ 1 < kL (h_1 l0 21) then
    let h_2 := hput h_1 (h_1 l0 21) 1 l2
    if kK (h_2 l0 21) = 21 ∧ (0 : Int) ≤ 2 ∧ 2 < kL (h_2 l0 21) then
    let h_3 := hput h_2 (h_2 l0 21) 2 l3
    if kK (h_3 l0 21) = 21 ∧ (0 : Int) ≤ 3 ∧ 3 < kL (h_3 l0 21) then
    let h_4 := hput h_3 (h_3 l0 21) 3 l4
    if kK (h_4 l0 21) = 21 ∧ (0 : Int) ≤ 4 ∧ 4 < kL (h_4 l0 21) then
    let h_5 := hput h_4 (h_4 l0 21) 4 l5
    ob (loopN (fun q => M_feed_L55 l0 q.1 q.2) LN (0, h_5)) (fun e101 =>
      let h_7 := hput e101 l0 20 (w32 ((e101 l0 20) + 20))
      some (h_7 l0 20, h_7))
    else none
    else none
    else none
    else none
    else none
  else
    some ((-1), h)
  else none
def M_end (l0 l1 : Int) (h : Hp) : Option (Int × Hp) :=
  if kK l0 = 11 then
  ob (M_in l1 0 (h l0 20)) (fun r8 =>
    if r8 = 0 then
      some ((-1), h)
    else
      let h_1 := hput h l0 20 l1
      some (l1, h_1))
  else none
def M_see (l0 l1 : Int) (h : Hp) : Option (Int) :=
  if kK l0 = 11 then
  if h l0 22 ≤ l1 then
    some ((-1))
  else
    if kK (h l0 19) = 20 ∧ (0 : Int) ≤ l1 ∧ l1 < kL (h l0 19) then
    some (i_and (h (h l0 19) l1) 255)
    else none
  else none
def M_skips_j26 (l0 : Int) (h : Hp) : Option ((Hp) ⊕ (Hp)) :=
  if kK l0 = 11 then
  let h_1 := hput h l0 23 (w32 ((h l0 23) + 1))
  some (.inl h_1)
  else none
def M_skips_L0 (l0 : Int) (h : Hp) : Option ((Hp) ⊕ (Hp)) :=
  if kK l0 = 11 then
  ob (M_see l0 (h l0 23) h) (fun r5 =>
    if r5 = 32 then
      M_skips_j26 l0 h
    else
      ob (M_see l0 (h l0 23) h) (fun r18 =>
        if r18 = 10 then
          M_skips_j26 l0 h
        else
          some (.inr h)))
  else none
def M_skips (l0 : Int) (h : Hp) : Option (Hp) :=
  ob (loopN (fun q => M_skips_L0 l0 q) LN h) (fun e39 =>
    if kK l0 = 11 then
    let h_2 := hput e39 l0 24 (e39 l0 23)
    some h_2
    else none)
def M_advance_j153 (s0 s1 : Int) (h : Hp) : Option (Hp) :=
  if kK s1 = 11 then
  let h_3 := hput h s1 25 s0
  some h_3
  else none
def M_advance_j148 (s0 : Int) (h : Hp) : Option (Hp) :=
  M_advance_j153 4 s0 h
def M_advance (l0 : Int) (h : Hp) : Option (Hp) :=
  if kK l0 = 11 then
  ob (M_skips l0 h) (fun r1 =>
    ob (M_see l0 (r1 l0 23) r1) (fun r9 =>
      let h_1 := hput r1 l0 26 r9
      if r9 = (-1) then
        let h_8 := hput h_1 l0 25 0
        some h_8
      else
        let h_2 := hput h_1 l0 23 (w32 ((h_1 l0 23) + 1))
        ob (M_in r9 65 90) (fun r47 =>
          if r47 = 0 then
            ob (M_in r9 97 122) (fun r77 =>
              if r77 = 0 then
                if r9 = 40 then
                  M_advance_j148 l0 h_2
                else
                  if r9 = 41 then
                    M_advance_j148 l0 h_2
                  else
                    if r9 = 59 then
                      M_advance_j148 l0 h_2
                    else
                      if r9 = 46 then
                        M_advance_j148 l0 h_2
                      else
                        if r9 = 42 then
                          M_advance_j148 l0 h_2
                        else
                          if r9 = 94 then
                            M_advance_j148 l0 h_2
                          else
                            if r9 = 33 then
                              M_advance_j148 l0 h_2
                            else
                              if r9 = 43 then
                                M_advance_j148 l0 h_2
                              else
                                M_advance_j153 5 l0 h_2
              else
                let h_4 := hput h_2 l0 25 3
                let h_5 := hput h_4 l0 26 (w32 (r9 - 97))
                some h_5)
          else
            let h_6 := hput h_2 l0 25 2
            let h_7 := hput h_6 l0 26 (w32 (r9 - 65))
            some h_7)))
  else none
def M_advanceLine_j96 (s0 s1 : Int) (h : Hp) : Option (Hp) :=
  if kK s1 = 11 then
  let h_1 := hput h s1 25 s0
  some h_1
  else none
def M_advanceLine_j78 (l0 : Int) (h : Hp) : Option (Hp) :=
  if kK l0 = 11 then
  ob (M_see l0 (h l0 23) h) (fun r84 =>
    M_advanceLine_j96 ((if r84 = (-1) then 0 else 5)) l0 h)
  else none
def M_advanceLine (l0 : Int) (h : Hp) : Option (Hp) :=
  if kK l0 = 11 then
  ob (M_skips l0 h) (fun r1 =>
    ob (M_see l0 (r1 l0 23) r1) (fun r9 =>
      if r9 = 116 then
        ob (M_see l0 (w32 ((r1 l0 23) + 1)) r1) (fun r24 =>
          if r24 = 114 then
            ob (M_see l0 (w32 ((r1 l0 23) + 2)) r1) (fun r39 =>
              if r39 = 101 then
                ob (M_see l0 (w32 ((r1 l0 23) + 3)) r1) (fun r54 =>
                  if r54 = 101 then
                    let h_2 := hput r1 l0 25 1
                    let h_3 := hput h_2 l0 23 (w32 ((h_2 l0 23) + 4))
                    some h_3
                  else
                    M_advanceLine_j78 l0 r1)
              else
                M_advanceLine_j78 l0 r1)
          else
            M_advanceLine_j78 l0 r1)
      else
        M_advanceLine_j78 l0 r1))
  else none
def M_good (l0 : Int) (h : Hp) : Option (Int) :=
  if kK l0 = 11 then
  some ((if h l0 27 = 0 then 1 else 0))
  else none
def M_errsAt (l0 l1 l2 : Int) (h : Hp) : Option (Hp) :=
  if kK l0 = 11 then
  ob (M_good l0 h) (fun r1 =>
    if r1 = 0 then
      some h
    else
      let h_1 := hput h l0 27 l1
      let h_2 := hput h_1 l0 28 l2
      some h_2)
  else none
def M_isSign_j27 (h : Hp) : Option (Int) :=
  some 0
def M_isSign (l0 l1 : Int) (h : Hp) : Option (Int) :=
  if kK l0 = 11 then
  ob (M_good l0 h) (fun r1 =>
    if r1 = 0 then
      M_isSign_j27 h
    else
      if h l0 25 = 4 then
        if h l0 26 = l1 then
          some 1
        else
          M_isSign_j27 h
      else
        M_isSign_j27 h)
  else none
def M_takesSign_j17 (l0 : Int) (h : Hp) : Option (Hp) :=
  if kK l0 = 11 then
  ob (M_good l0 h) (fun r18 =>
    if r18 = 0 then
      some h
    else
      ob (M_advance l0 h) (fun r25 =>
        some r25))
  else none
def M_takesSign (l0 l1 : Int) (h : Hp) : Option (Hp) :=
  if kK l0 = 11 then
  ob (M_isSign l0 l1 h) (fun r2 =>
    if r2 = 0 then
      ob (M_errsAt l0 1 (h l0 24) h) (fun r14 =>
        M_takesSign_j17 l0 r14)
    else
      M_takesSign_j17 l0 h)
  else none
def M_opens_j30 (l0 l1 l2 l3 : Int) (h : Hp) : Option (Int × Hp) :=
  if kK l0 = 11 then
  ob (M_good l0 h) (fun r31 =>
    if r31 = 0 then
      some (40, h)
    else
      if kK (h l0 5) = 21 ∧ (0 : Int) ≤ w32 (40 + (h l0 12)) ∧ w32 (40 + (h l0 12)) < kL (h l0 5) then
      let h_1 := hput h (h l0 5) (w32 (40 + (h l0 12))) l1
      if kK (h_1 l0 6) = 21 ∧ (0 : Int) ≤ w32 (40 + (h l0 12)) ∧ w32 (40 + (h l0 12)) < kL (h_1 l0 6) then
      let h_2 := hput h_1 (h_1 l0 6) (w32 (40 + (h l0 12))) l2
      if kK (h_2 l0 7) = 21 ∧ (0 : Int) ≤ w32 (40 + (h l0 12)) ∧ w32 (40 + (h l0 12)) < kL (h_2 l0 7) then
      let h_3 := hput h_2 (h_2 l0 7) (w32 (40 + (h l0 12))) 0
      if kK (h_3 l0 8) = 21 ∧ (0 : Int) ≤ w32 (40 + (h l0 12)) ∧ w32 (40 + (h l0 12)) < kL (h_3 l0 8) then
      let h_4 := hput h_3 (h_3 l0 8) (w32 (40 + (h l0 12))) ((-1))
      if kK (h_4 l0 9) = 21 ∧ (0 : Int) ≤ w32 (40 + (h l0 12)) ∧ w32 (40 + (h l0 12)) < kL (h_4 l0 9) then
      let h_5 := hput h_4 (h_4 l0 9) (w32 (40 + (h l0 12))) ((-1))
      if kK (h_5 l0 10) = 21 ∧ (0 : Int) ≤ w32 (40 + (h l0 12)) ∧ w32 (40 + (h l0 12)) < kL (h_5 l0 10) then
      let h_6 := hput h_5 (h_5 l0 10) (w32 (40 + (h l0 12))) l3
      let h_7 := hput h_6 l0 12 (w32 ((h_6 l0 12) + 1))
      some (w32 (40 + (h l0 12)), h_7)
      else none
      else none
      else none
      else none
      else none
      else none)
  else none
def M_opens_j23 (l0 l1 l2 l3 l4 : Int) (h : Hp) : Option (Int × Hp) :=
  if kK l0 = 11 then
  ob (M_errsAt l0 3 l4 h) (fun r27 =>
    M_opens_j30 l0 l1 l2 l3 r27)
  else none
def M_opens (l0 l1 l2 l3 l4 : Int) (h : Hp) : Option (Int × Hp) :=
  if kK l0 = 11 then
  if h l0 12 = 40 then
    M_opens_j23 l0 l1 l2 l3 l4 h
  else
    if w32 ((h l0 12) - (h l0 29)) = 12 then
      M_opens_j23 l0 l1 l2 l3 l4 h
    else
      M_opens_j30 l0 l1 l2 l3 h
  else none
def M_readMarked_j122 (l0 l5 : Int) (h : Hp) : Option (Int × Hp) :=
  if kK l0 = 11 then
  ob (M_advance l0 h) (fun r123 =>
    some (l5, r123))
  else none
def M_readMarked_j101 (l0 l4 l5 : Int) (h : Hp) : Option (Int × Hp) :=
  if kK l0 = 11 then
  ob (M_good l0 h) (fun r102 =>
    if r102 = 0 then
      some (l5, h)
    else
      if l4 = 0 then
        M_readMarked_j122 l0 l5 h
      else
        let h_1 := hput h l0 30 l5
        M_readMarked_j122 l0 l5 h_1)
  else none
def M_readMarked_j63 (l0 l1 l2 l3 l4 s0 s1 : Int) (h : Hp) : Option (Int × Hp) :=
  if kK s1 = 11 then
  ob (M_opens s1 s0 l3 l1 l2 h) (fun r66 =>
    if kK l0 = 11 then
    ob (M_good l0 r66.2) (fun r72 =>
      if r72 = 0 then
        M_readMarked_j101 l0 l4 r66.1 r66.2
      else
        if l4 = 0 then
          ob (M_isSign l0 94 r66.2) (fun r86 =>
            if r86 = 0 then
              ob (M_errsAt l0 1 (r66.2 l0 24) r66.2) (fun r98 =>
                M_readMarked_j101 l0 l4 r66.1 r98)
            else
              M_readMarked_j101 l0 l4 r66.1 r66.2)
        else
          M_readMarked_j101 l0 l4 r66.1 r66.2)
    else none)
  else none
def M_readMarked_j52 (l0 l1 l2 l3 l4 : Int) (h : Hp) : Option (Int × Hp) :=
  M_readMarked_j63 l0 l1 l2 l3 l4 ((if l4 = 0 then 4 else 3)) l0 h
def M_readMarked_j46 (l0 l1 l2 l3 l4 : Int) (h : Hp) : Option (Int × Hp) :=
  if kK l0 = 11 then
  ob (M_errsAt l0 2 l2 h) (fun r49 =>
    M_readMarked_j52 l0 l1 l2 l3 l4 r49)
  else none
def M_readMarked (l0 l1 l2 : Int) (h : Hp) : Option (Int × Hp) :=
  if kK l0 = 11 then
  ob (M_advance l0 h) (fun r6 =>
    ob (M_isSign l0 42 r6) (fun r12 =>
      if r12 = 0 then
        M_readMarked_j52 l0 l1 l2 (h l0 26) r12 r6
      else
        if r6 l0 30 = (-1) then
          if kK (r6 l0 6) = 21 ∧ (0 : Int) ≤ w32 (40 + (r6 l0 29)) ∧ w32 (40 + (r6 l0 29)) < kL (r6 l0 6) then
          if h l0 26 = r6 (r6 l0 6) (w32 (40 + (r6 l0 29))) then
            M_readMarked_j52 l0 l1 l2 (h l0 26) r12 r6
          else
            M_readMarked_j46 l0 l1 l2 (h l0 26) r12 r6
          else none
        else
          M_readMarked_j46 l0 l1 l2 (h l0 26) r12 r6))
  else none
def M_readBranch_j131 (R : Nat → List Int → Hp → Option (Int × Hp)) (d : Nat) (l0 l3 l4 s0 : Int) (h : Hp) : Option (Int × Hp) :=
  if kK l0 = 11 then
  ob (M_good l0 h) (fun r134 =>
    if r134 = 0 then
      some (l3, h)
    else
      if kK (h l0 8) = 21 ∧ (0 : Int) ≤ l3 ∧ l3 < kL (h l0 8) then
      let h_2 := hput h (h l0 8) l3 l4
      if kK (h_2 l0 9) = 21 ∧ (0 : Int) ≤ l3 ∧ l3 < kL (h_2 l0 9) then
      let h_3 := hput h_2 (h_2 l0 9) l3 s0
      some (l3, h_3)
      else none
      else none)
  else none
def M_readBranch_j130 (R : Nat → List Int → Hp → Option (Int × Hp)) (d : Nat) (l0 l3 l4 : Int) (h : Hp) : Option (Int × Hp) :=
  M_readBranch_j131 R d l0 l3 l4 ((-1)) h
def M_readBranch_j99 (R : Nat → List Int → Hp → Option (Int × Hp)) (d : Nat) (l0 l3 : Int) (h : Hp) : Option (Int × Hp) :=
  if kK l0 = 11 then
  ob (R 1 [l0, l3] h) (fun r101 =>
    ob (M_good l0 r101.2) (fun r107 =>
      if r107 = 0 then
        M_readBranch_j130 R d l0 l3 r101.1 r101.2
      else
        ob (M_isSign l0 41 r101.2) (fun r116 =>
          if r116 = 0 then
            ob (R 1 [l0, l3] r101.2) (fun r124 =>
              M_readBranch_j131 R d l0 l3 r101.1 r124.1 r124.2)
          else
            M_readBranch_j130 R d l0 l3 r101.1 r101.2)))
  else none
def M_readBranch_j94 (R : Nat → List Int → Hp → Option (Int × Hp)) (d : Nat) (l0 l3 s0 s1 s2 : Int) (h : Hp) : Option (Int × Hp) :=
  if kK s2 = 21 ∧ (0 : Int) ≤ s1 ∧ s1 < kL s2 then
  let h_1 := hput h s2 s1 s0
  if kK l0 = 11 then
  ob (M_advance l0 h_1) (fun r96 =>
    M_readBranch_j99 R d l0 l3 r96)
  else none
  else none
def M_readBranch_j75 (R : Nat → List Int → Hp → Option (Int × Hp)) (d : Nat) (l0 l3 : Int) (h : Hp) : Option (Int × Hp) :=
  if kK l0 = 11 then
  M_readBranch_j94 R d l0 l3 ((if h l0 26 = 33 then 1 else 2)) l3 (h l0 7) h
  else none
def M_readBranch_j57 (R : Nat → List Int → Hp → Option (Int × Hp)) (d : Nat) (l0 l3 : Int) (h : Hp) : Option (Int × Hp) :=
  if kK l0 = 11 then
  ob (M_isSign l0 33 h) (fun r60 =>
    if r60 = 0 then
      ob (M_isSign l0 43 h) (fun r69 =>
        if r69 = 0 then
          M_readBranch_j99 R d l0 l3 h
        else
          M_readBranch_j75 R d l0 l3 h)
    else
      M_readBranch_j75 R d l0 l3 h)
  else none
def M_readBranch_j45 (R : Nat → List Int → Hp → Option (Int × Hp)) (d : Nat) (l0 s0 : Int) (h : Hp) : Option (Int × Hp) :=
  if kK l0 = 11 then
  ob (M_good l0 h) (fun r47 =>
    if r47 = 0 then
      M_readBranch_j57 R d l0 s0 h
    else
      ob (M_advance l0 h) (fun r54 =>
        M_readBranch_j57 R d l0 s0 r54))
  else none
def M_readBranch_j22 (R : Nat → List Int → Hp → Option (Int × Hp)) (d : Nat) (l0 l1 l2 : Int) (h : Hp) : Option (Int × Hp) :=
  if kK l0 = 11 then
  ob (M_good l0 h) (fun r23 =>
    if r23 = 0 then
      M_readBranch_j45 R d l0 40 h
    else
      ob (M_opens l0 0 (h l0 26) l1 l2 h) (fun r37 =>
        M_readBranch_j45 R d l0 r37.1 r37.2))
  else none
def M_readBranch_b (R : Nat → List Int → Hp → Option (Int × Hp)) (d : Nat) (l0 l1 : Int) (h : Hp) : Option (Int × Hp) :=
  if kK l0 = 11 then
  if h l0 25 = 2 then
    M_readBranch_j22 R d l0 l1 (h l0 24) h
  else
    ob (M_errsAt l0 1 (h l0 24) h) (fun r19 =>
      M_readBranch_j22 R d l0 l1 (h l0 24) r19)
  else none
def M_readChild_j62 (R : Nat → List Int → Hp → Option (Int × Hp)) (d : Nat) (l0 l1 l2 s0 s1 s2 : Int) (h : Hp) : Option (Int × Hp) :=
  if kK s2 = 11 then
  ob (M_opens s2 s1 s0 l1 l2 h) (fun r64 =>
    if kK l0 = 11 then
    ob (M_good l0 r64.2) (fun r69 =>
      if r69 = 0 then
        some (r64.1, r64.2)
      else
        ob (M_advance l0 r64.2) (fun r76 =>
          some (r64.1, r76)))
    else none)
  else none
def M_readChild_j46 (R : Nat → List Int → Hp → Option (Int × Hp)) (d : Nat) (l0 l1 l2 s0 s1 : Int) (h : Hp) : Option (Int × Hp) :=
  if kK l0 = 11 then
  M_readChild_j62 R d l0 l1 l2 ((if h l0 25 = 3 then h l0 26 else (-1))) s0 s1 h
  else none
def M_readChild_j32 (R : Nat → List Int → Hp → Option (Int × Hp)) (d : Nat) (l0 l1 l2 : Int) (h : Hp) : Option (Int × Hp) :=
  if kK l0 = 11 then
  M_readChild_j46 R d l0 l1 l2 ((if h l0 25 = 3 then 1 else 2)) l0 h
  else none
def M_readChild_b (R : Nat → List Int → Hp → Option (Int × Hp)) (d : Nat) (l0 l1 : Int) (h : Hp) : Option (Int × Hp) :=
  if kK l0 = 11 then
  ob (M_good l0 h) (fun r1 =>
    if r1 = 0 then
      some (40, h)
    else
      if h l0 25 = 3 then
        M_readChild_j32 R d l0 l1 (h l0 24) h
      else
        ob (M_isSign l0 46 h) (fun r26 =>
          if r26 = 0 then
            ob (M_isSign l0 40 h) (fun r84 =>
              if r84 = 0 then
                if h l0 25 = 2 then
                  ob (M_readMarked l0 l1 (h l0 24) h) (fun r119 =>
                    some (r119.1, r119.2))
                else
                  ob (M_errsAt l0 1 (h l0 24) h) (fun r129 =>
                    some (40, r129))
              else
                ob (M_advance l0 h) (fun r91 =>
                  ob (R 0 [l0, l1] r91) (fun r96 =>
                    ob (M_takesSign l0 41 r96.2) (fun r103 =>
                      some (r96.1, r103)))))
          else
            M_readChild_j32 R d l0 l1 (h l0 24) h))
  else none
def M_readBranch_G : Nat → Nat → List Int → Hp → Option (Int × Hp)
  | 0, _, _, _ => none
  | d + 1, k, as, h => if 3 ≤ d then (match k, as with
    | 0, [l0, l1] => M_readBranch_b (M_readBranch_G d) d l0 l1 h
    | 1, [l0, l1] => M_readChild_b (M_readBranch_G d) d l0 l1 h
    | _, _ => none) else none
def M_readBranch (d : Nat) (l0 l1 : Int) (h : Hp) : Option (Int × Hp) := M_readBranch_G d 0 [l0, l1] h
def M_readChild (d : Nat) (l0 l1 : Int) (h : Hp) : Option (Int × Hp) := M_readBranch_G d 1 [l0, l1] h
def M_isLettered_j62 (l0 l2 s0 : Int) (h : Hp) : Option ((Int × Int) ⊕ ((Unit) ⊕ (Int))) :=
  some (.inl (s0, w32 (l2 + 1)))
def M_isLettered_j57 (l0 l2 : Int) (h : Hp) : Option ((Int × Int) ⊕ ((Unit) ⊕ (Int))) :=
  M_isLettered_j62 l0 l2 1 h
def M_isLettered_L10 (l0 : Int) (h : Hp) (l1 l2 : Int) : Option ((Int × Int) ⊕ ((Unit) ⊕ (Int))) :=
  if kK l0 = 11 then
  if w32 (40 + (h l0 12)) ≤ l2 then
    some (.inr (.inr (l1)))
  else
    if kK (h l0 5) = 21 ∧ (0 : Int) ≤ l2 ∧ l2 < kL (h l0 5) then
    if h (h l0 5) l2 = 1 then
      some (.inr (.inl (())))
    else
      if l1 = 0 then
        if h (h l0 5) l2 = 3 then
          M_isLettered_j57 l0 l2 h
        else
          if h (h l0 5) l2 = 4 then
            M_isLettered_j57 l0 l2 h
          else
            M_isLettered_j62 l0 l2 0 h
      else
        M_isLettered_j57 l0 l2 h
    else none
  else none
def M_isLettered (l0 : Int) (h : Hp) : Option (Int) :=
  if kK l0 = 11 then
  ob (loopN (fun q => M_isLettered_L10 l0 h q.1 q.2) LN (0, w32 (40 + (h l0 29)))) (fun q10 =>
    match q10 with
    | .inl e31 =>
      some 1
    | .inr e69 =>
      some ((if e69 = 0 then 1 else 0)))
  else none
def M_readTree_j125 (d : Nat) (l0 : Int) (h : Hp) : Option (Hp) :=
  if kK l0 = 11 then
  if kK (h l0 4) = 21 ∧ (0 : Int) ≤ w32 (9 + (h l0 11)) ∧ w32 (9 + (h l0 11)) < kL (h l0 4) then
  let h_3 := hput h (h l0 4) (w32 (9 + (h l0 11))) (h l0 29)
  let h_4 := hput h_3 l0 11 (w32 ((h_3 l0 11) + 1))
  some h_4
  else none
  else none
def M_readTree_j94 (d : Nat) (l0 : Int) (h : Hp) : Option (Hp) :=
  if kK l0 = 11 then
  ob (M_takesSign l0 41 h) (fun r97 =>
    ob (M_good l0 r97) (fun r101 =>
      if r101 = 0 then
        M_readTree_j125 d l0 r97
      else
        ob (M_isSign l0 59 r97) (fun r110 =>
          if r110 = 0 then
            ob (M_errsAt l0 1 (r97 l0 24) r97) (fun r122 =>
              M_readTree_j125 d l0 r122)
          else
            M_readTree_j125 d l0 r97)))
  else none
def M_readTree_j62 (d : Nat) (l0 : Int) (h : Hp) : Option (Hp) :=
  if kK l0 = 11 then
  ob (M_good l0 h) (fun r63 =>
    if r63 = 0 then
      M_readTree_j94 d l0 h
    else
      ob (M_isSign l0 41 h) (fun r72 =>
        if r72 = 0 then
          M_readTree_j94 d l0 h
        else
          ob (M_isLettered l0 h) (fun r79 =>
            if r79 = 0 then
              ob (M_errsAt l0 4 (h l0 24) h) (fun r91 =>
                M_readTree_j94 d l0 r91)
            else
              M_readTree_j94 d l0 h)))
  else none
def M_readTree_j18 (d : Nat) (l0 : Int) (h : Hp) : Option (Hp) :=
  if kK l0 = 11 then
  ob (M_good l0 h) (fun r19 =>
    if r19 = 0 then
      some h
    else
      let h_1 := hput h l0 29 (h l0 12)
      let h_2 := hput h_1 l0 30 ((-1))
      ob (M_advance l0 h_2) (fun r40 =>
        ob (M_takesSign l0 40 r40) (fun r46 =>
          ob (M_good l0 r46) (fun r50 =>
            if r50 = 0 then
              M_readTree_j62 d l0 r46
            else
              ob (M_readBranch (d - 1) l0 ((-1)) r46) (fun r58 =>
                M_readTree_j62 d l0 r58.2)))))
  else none
def M_readTree (d : Nat) (l0 : Int) (h : Hp) : Option (Hp) :=
  if kK l0 = 11 then
  if h l0 11 = 8 then
    ob (M_errsAt l0 3 (h l0 24) h) (fun r15 =>
      M_readTree_j18 d l0 r15)
  else
    M_readTree_j18 d l0 h
  else none
def M_laysTree_j174 (l0 l1 l2 l3 : Int) (h : Hp) : Option ((Int × Hp) ⊕ (Hp)) :=
  some (.inl (w32 (l3 + 1), h))
def M_laysTree_j173 (l0 l1 l2 l3 s0 s1 s2 : Int) (h : Hp) : Option ((Int × Hp) ⊕ (Hp)) :=
  if kK s2 = 23 ∧ (0 : Int) ≤ s1 ∧ s1 < kL s2 then
  if s0 = 0 ∨ s0 = 1 then
  let h_8 := hput h s2 s1 s0
  M_laysTree_j174 l0 l1 l2 l3 h_8
  else none
  else none
def M_laysTree_j168 (l0 l1 l2 l3 s0 s1 : Int) (h : Hp) : Option ((Int × Hp) ⊕ (Hp)) :=
  M_laysTree_j173 l0 l1 l2 l3 1 s0 s1 h
def M_laysTree_j117 (l0 l1 l2 l3 s0 : Int) (h : Hp) : Option ((Int × Hp) ⊕ (Hp)) :=
  if s0 = (-1) then
    M_laysTree_j174 l0 l1 l2 l3 h
  else
    if kK l0 = 11 then
    if kK (h l0 13) = 21 ∧ (0 : Int) ≤ l2 ∧ l2 < kL (h l0 13) then
    if kK (h l0 13) = 21 ∧ (0 : Int) ≤ s0 ∧ s0 < kL (h l0 13) then
    let h_7 := hput h (h l0 13) l2 (w32 ((h (h l0 13) l2) + (h (h l0 13) s0)))
    if kK (h_7 l0 14) = 23 ∧ (0 : Int) ≤ l2 ∧ l2 < kL (h_7 l0 14) then
    if h_7 (h_7 l0 14) l2 = 0 then
      if kK (h_7 l0 14) = 23 ∧ (0 : Int) ≤ s0 ∧ s0 < kL (h_7 l0 14) then
      if h_7 (h_7 l0 14) s0 = 0 then
        M_laysTree_j173 l0 l1 l2 l3 0 l2 (h_7 l0 14) h_7
      else
        M_laysTree_j168 l0 l1 l2 l3 l2 (h_7 l0 14) h_7
      else none
    else
      M_laysTree_j168 l0 l1 l2 l3 l2 (h_7 l0 14) h_7
    else none
    else none
    else none
    else none
def M_laysTree_L93 (l0 l1 l2 : Int) (l3 : Int) (h : Hp) : Option ((Int × Hp) ⊕ (Hp)) :=
  if 2 ≤ l3 then
    some (.inr h)
  else
    if l3 = 0 then
      if kK l0 = 11 then
      if kK (h l0 8) = 21 ∧ (0 : Int) ≤ l2 ∧ l2 < kL (h l0 8) then
      M_laysTree_j117 l0 l1 l2 l3 (h (h l0 8) l2) h
      else none
      else none
    else
      if kK l0 = 11 then
      if kK (h l0 9) = 21 ∧ (0 : Int) ≤ l2 ∧ l2 < kL (h l0 9) then
      M_laysTree_j117 l0 l1 l2 l3 (h (h l0 9) l2) h
      else none
      else none
def M_laysTree_j250 (l0 l1 l2 s0 s1 s2 s3 : Int) (h : Hp) : Option ((Int × Hp) ⊕ (Hp)) :=
  if kK s3 = 21 ∧ (0 : Int) ≤ s2 ∧ s2 < kL s3 then
  let h_9 := hput h s3 s2 (w32 (s1 + s0))
  some (.inl (w32 (l2 + (-1)), h_9))
  else none
def M_laysTree_j228 (l0 l1 l2 : Int) (h : Hp) : Option ((Int × Hp) ⊕ (Hp)) :=
  if kK l0 = 11 then
  if kK (h l0 18) = 21 ∧ (0 : Int) ≤ l1 ∧ l1 < kL (h l0 18) then
  if kK (h l0 5) = 21 ∧ (0 : Int) ≤ l2 ∧ l2 < kL (h l0 5) then
  M_laysTree_j250 l0 l1 l2 ((if h (h l0 5) l2 = 4 then 1 else 0)) (h (h l0 18) l1) l1 (h l0 18) h
  else none
  else none
  else none
def M_laysTree_j204 (l0 l1 l2 : Int) (h : Hp) : Option ((Int × Hp) ⊕ (Hp)) :=
  if kK l0 = 11 then
  if kK (h l0 5) = 21 ∧ (0 : Int) ≤ l2 ∧ l2 < kL (h l0 5) then
  if h (h l0 5) l2 = 1 then
    if kK (h l0 4) = 21 ∧ (0 : Int) ≤ l1 ∧ l1 < kL (h l0 4) then
    if kK (h l0 17) = 21 ∧ (0 : Int) ≤ l1 ∧ l1 < kL (h l0 17) then
    let h_10 := hput h (h l0 17) l1 (w32 (l2 - (h (h l0 4) l1)))
    M_laysTree_j228 l0 l1 l2 h_10
    else none
    else none
  else
    M_laysTree_j228 l0 l1 l2 h
  else none
  else none
def M_laysTree_j90 (l0 l1 l2 s0 s1 s2 : Int) (h : Hp) : Option ((Int × Hp) ⊕ (Hp)) :=
  if kK s2 = 23 ∧ (0 : Int) ≤ s1 ∧ s1 < kL s2 then
  if s0 = 0 ∨ s0 = 1 then
  let h_6 := hput h s2 s1 s0
  ob (loopN (fun q => M_laysTree_L93 l0 l1 l2 q.1 q.2) LN (0, h_6)) (fun e180 =>
    if kK l0 = 11 then
    if kK (e180 l0 5) = 21 ∧ (0 : Int) ≤ l2 ∧ l2 < kL (e180 l0 5) then
    if e180 (e180 l0 5) l2 = 3 then
      if kK (e180 l0 4) = 21 ∧ (0 : Int) ≤ l1 ∧ l1 < kL (e180 l0 4) then
      if kK (e180 l0 16) = 21 ∧ (0 : Int) ≤ l1 ∧ l1 < kL (e180 l0 16) then
      let h_11 := hput e180 (e180 l0 16) l1 (w32 (l2 - (e180 (e180 l0 4) l1)))
      M_laysTree_j204 l0 l1 l2 h_11
      else none
      else none
    else
      M_laysTree_j204 l0 l1 l2 e180
    else none
    else none)
  else none
  else none
def M_laysTree_j69 (l0 l1 l2 s0 s1 s2 : Int) (h : Hp) : Option ((Int × Hp) ⊕ (Hp)) :=
  if kK s2 = 21 ∧ (0 : Int) ≤ s1 ∧ s1 < kL s2 then
  let h_5 := hput h s2 s1 s0
  if kK l0 = 11 then
  if kK (h_5 l0 5) = 21 ∧ (0 : Int) ≤ l2 ∧ l2 < kL (h_5 l0 5) then
  M_laysTree_j90 l0 l1 l2 ((if h_5 (h_5 l0 5) l2 = 3 then 1 else 0)) l2 (h_5 l0 14) h_5
  else none
  else none
  else none
def M_laysTree_L32 (l0 l1 : Int) (l2 : Int) (h : Hp) : Option ((Int × Hp) ⊕ (Hp)) :=
  if kK l0 = 11 then
  if kK (h l0 4) = 21 ∧ (0 : Int) ≤ l1 ∧ l1 < kL (h l0 4) then
  if l2 < h (h l0 4) l1 then
    some (.inr h)
  else
    if kK (h l0 15) = 21 ∧ (0 : Int) ≤ l2 ∧ l2 < kL (h l0 15) then
    let h_4 := hput h (h l0 15) l2 l1
    if kK (h_4 l0 5) = 21 ∧ (0 : Int) ≤ l2 ∧ l2 < kL (h_4 l0 5) then
    M_laysTree_j69 l0 l1 l2 ((if h_4 (h_4 l0 5) l2 = 1 then 1 else 0)) l2 (h_4 l0 13) h_4
    else none
    else none
  else none
  else none
def M_laysTree (l0 l1 : Int) (h : Hp) : Option (Hp) :=
  if kK l0 = 11 then
  if kK (h l0 16) = 21 ∧ (0 : Int) ≤ l1 ∧ l1 < kL (h l0 16) then
  let h_1 := hput h (h l0 16) l1 ((-1))
  if kK (h_1 l0 17) = 21 ∧ (0 : Int) ≤ l1 ∧ l1 < kL (h_1 l0 17) then
  let h_2 := hput h_1 (h_1 l0 17) l1 ((-1))
  if kK (h_2 l0 18) = 21 ∧ (0 : Int) ≤ l1 ∧ l1 < kL (h_2 l0 18) then
  let h_3 := hput h_2 (h_2 l0 18) l1 0
  if kK (h_3 l0 4) = 21 ∧ (0 : Int) ≤ w32 (l1 + 1) ∧ w32 (l1 + 1) < kL (h_3 l0 4) then
  ob (loopN (fun q => M_laysTree_L32 l0 l1 q.1 q.2) LN (w32 ((h_3 (h_3 l0 4) (w32 (l1 + 1))) - 1), h_3)) (fun e258 =>
    some e258)
  else none
  else none
  else none
  else none
  else none
def M_grammar_j73 (d : Nat) (l0 : Int) (h : Hp) : Option ((Hp) ⊕ (Hp)) :=
  if kK l0 = 11 then
  ob (M_readTree (d - 1) l0 h) (fun r74 =>
    ob (M_good l0 r74) (fun r78 =>
      if r78 = 0 then
        some (.inl r74)
      else
        ob (M_advanceLine l0 r74) (fun r85 =>
          some (.inl r85))))
  else none
def M_grammar_L42 (d : Nat) (l0 : Int) (h : Hp) : Option ((Hp) ⊕ (Hp)) :=
  if kK l0 = 11 then
  ob (M_good l0 h) (fun r43 =>
    if r43 = 0 then
      some (.inr h)
    else
      if h l0 25 = 0 then
        some (.inr h)
      else
        if h l0 25 = 1 then
          M_grammar_j73 d l0 h
        else
          ob (M_errsAt l0 1 (h l0 24) h) (fun r70 =>
            M_grammar_j73 d l0 r70))
  else none
def M_grammar_L124 (d : Nat) (l0 : Int) (l1 : Int) (h : Hp) : Option ((Int × Hp) ⊕ (Hp)) :=
  if kK l0 = 11 then
  if h l0 1 ≤ l1 then
    some (.inr h)
  else
    if kK (h l0 4) = 21 ∧ (0 : Int) ≤ w32 (9 + l1) ∧ w32 (9 + l1) < kL (h l0 4) then
    if kK (h l0 4) = 21 ∧ (0 : Int) ≤ l1 ∧ l1 < kL (h l0 4) then
    let h_11 := hput h (h l0 4) l1 (h (h l0 4) (w32 (9 + l1)))
    some (.inl (w32 (l1 + 1), h_11))
    else none
    else none
  else none
def M_grammar_j325 (d : Nat) (l0 l1 s0 s1 s2 : Int) (h : Hp) : Option ((Int × Hp) ⊕ (Hp)) :=
  if kK s2 = 21 ∧ (0 : Int) ≤ s1 ∧ s1 < kL s2 then
  let h_18 := hput h s2 s1 s0
  some (.inl (w32 (l1 + 1), h_18))
  else none
def M_grammar_j290 (d : Nat) (l0 l1 s0 s1 s2 : Int) (h : Hp) : Option ((Int × Hp) ⊕ (Hp)) :=
  if kK s2 = 21 ∧ (0 : Int) ≤ s1 ∧ s1 < kL s2 then
  let h_17 := hput h s2 s1 s0
  if kK l0 = 11 then
  if kK (h_17 l0 10) = 21 ∧ (0 : Int) ≤ w32 (40 + l1) ∧ w32 (40 + l1) < kL (h_17 l0 10) then
  M_grammar_j325 d l0 l1 ((if h_17 (h_17 l0 10) (w32 (40 + l1)) = (-1) then (-1) else w32 ((h_17 (h_17 l0 10) (w32 (40 + l1))) - 40))) l1 (h_17 l0 10) h_17
  else none
  else none
  else none
def M_grammar_j255 (d : Nat) (l0 l1 s0 s1 s2 : Int) (h : Hp) : Option ((Int × Hp) ⊕ (Hp)) :=
  if kK s2 = 21 ∧ (0 : Int) ≤ s1 ∧ s1 < kL s2 then
  let h_16 := hput h s2 s1 s0
  if kK l0 = 11 then
  if kK (h_16 l0 9) = 21 ∧ (0 : Int) ≤ w32 (40 + l1) ∧ w32 (40 + l1) < kL (h_16 l0 9) then
  M_grammar_j290 d l0 l1 ((if h_16 (h_16 l0 9) (w32 (40 + l1)) = (-1) then (-1) else w32 ((h_16 (h_16 l0 9) (w32 (40 + l1))) - 40))) l1 (h_16 l0 9) h_16
  else none
  else none
  else none
def M_grammar_L168 (d : Nat) (l0 : Int) (l1 : Int) (h : Hp) : Option ((Int × Hp) ⊕ (Hp)) :=
  if kK l0 = 11 then
  if h l0 2 ≤ l1 then
    some (.inr h)
  else
    if kK (h l0 5) = 21 ∧ (0 : Int) ≤ w32 (40 + l1) ∧ w32 (40 + l1) < kL (h l0 5) then
    if kK (h l0 5) = 21 ∧ (0 : Int) ≤ l1 ∧ l1 < kL (h l0 5) then
    let h_13 := hput h (h l0 5) l1 (h (h l0 5) (w32 (40 + l1)))
    if kK (h_13 l0 6) = 21 ∧ (0 : Int) ≤ w32 (40 + l1) ∧ w32 (40 + l1) < kL (h_13 l0 6) then
    if kK (h_13 l0 6) = 21 ∧ (0 : Int) ≤ l1 ∧ l1 < kL (h_13 l0 6) then
    let h_14 := hput h_13 (h_13 l0 6) l1 (h_13 (h_13 l0 6) (w32 (40 + l1)))
    if kK (h_14 l0 7) = 21 ∧ (0 : Int) ≤ w32 (40 + l1) ∧ w32 (40 + l1) < kL (h_14 l0 7) then
    if kK (h_14 l0 7) = 21 ∧ (0 : Int) ≤ l1 ∧ l1 < kL (h_14 l0 7) then
    let h_15 := hput h_14 (h_14 l0 7) l1 (h_14 (h_14 l0 7) (w32 (40 + l1)))
    if kK (h_15 l0 8) = 21 ∧ (0 : Int) ≤ w32 (40 + l1) ∧ w32 (40 + l1) < kL (h_15 l0 8) then
    M_grammar_j255 d l0 l1 ((if h_15 (h_15 l0 8) (w32 (40 + l1)) = (-1) then (-1) else w32 ((h_15 (h_15 l0 8) (w32 (40 + l1))) - 40))) l1 (h_15 l0 8) h_15
    else none
    else none
    else none
    else none
    else none
    else none
    else none
  else none
def M_grammar_L334 (d : Nat) (l0 : Int) (l1 : Int) (h : Hp) : Option ((Int × Hp) ⊕ (Hp)) :=
  if kK l0 = 11 then
  if h l0 1 ≤ l1 then
    some (.inr h)
  else
    ob (M_laysTree l0 l1 h) (fun r344 =>
      some (.inl (w32 (l1 + 1), r344)))
  else none
def M_grammar (d : Nat) (l0 : Int) (h : Hp) : Option (Int × Hp) :=
  if kK l0 = 11 then
  let h_1 := hput h l0 22 (h l0 20)
  let h_2 := hput h_1 l0 20 0
  let h_3 := hput h_2 l0 23 0
  let h_4 := hput h_3 l0 27 0
  let h_5 := hput h_4 l0 28 ((-1))
  let h_6 := hput h_5 l0 11 0
  let h_7 := hput h_6 l0 12 0
  ob (M_advanceLine l0 h_7) (fun r39 =>
    ob (loopN (fun q => M_grammar_L42 d l0 q) LN r39) (fun e91 =>
      ob (M_good l0 e91) (fun r92 =>
        if r92 = 0 then
          some ((-4), e91)
        else
          let h_8 := hput e91 l0 1 (e91 l0 11)
          let h_9 := hput h_8 l0 2 (h_8 l0 12)
          let h_10 := hput h_9 l0 3 0
          ob (loopN (fun q => M_grammar_L124 d l0 q.1 q.2) LN (0, h_10)) (fun e153 =>
            if kK (e153 l0 4) = 21 ∧ (0 : Int) ≤ e153 l0 1 ∧ e153 l0 1 < kL (e153 l0 4) then
            let h_12 := hput e153 (e153 l0 4) (e153 l0 1) (e153 l0 2)
            ob (loopN (fun q => M_grammar_L168 d l0 q.1 q.2) LN (0, h_12)) (fun e332 =>
              ob (loopN (fun q => M_grammar_L334 d l0 q.1 q.2) LN (0, e332)) (fun e353 =>
                some (e353 l0 1, e353)))
            else none))))
  else none
def M_fault (l0 l1 : Int) (h : Hp) : Option (Int) :=
  if l1 = 0 then
    if kK l0 = 11 then
    some (h l0 27)
    else none
  else
    if l1 = 1 then
      if kK l0 = 11 then
      some (h l0 28)
      else none
    else
      some ((-1))
def M_say_L21 (l0 l1 : Int) (h : Hp) (l2 : Int) : Option ((Int) ⊕ ((Unit) ⊕ (Unit))) :=
  if l1 ≤ l2 then
    some (.inr (.inr (())))
  else
    if kK l0 = 11 then
    if kK (h l0 19) = 20 ∧ (0 : Int) ≤ l2 ∧ l2 < kL (h l0 19) then
    ob (M_in (h (h l0 19) l2) 97 122) (fun r39 =>
      if r39 = 0 then
        some (.inr (.inl (())))
      else
        some (.inl (w32 (l2 + 1))))
    else none
    else none
def M_say_L61 (l0 l1 : Int) (l2 : Int) (h : Hp) : Option ((Int × Hp) ⊕ (Hp)) :=
  if l1 ≤ l2 then
    some (.inr h)
  else
    if kK l0 = 11 then
    if kK (h l0 19) = 20 ∧ (0 : Int) ≤ l2 ∧ l2 < kL (h l0 19) then
    if kK (h l0 31) = 21 ∧ (0 : Int) ≤ l2 ∧ l2 < kL (h l0 31) then
    let h_3 := hput h (h l0 31) l2 (w32 ((h (h l0 19) l2) - 97))
    some (.inl (w32 (l2 + 1), h_3))
    else none
    else none
    else none
def M_say (l0 : Int) (h : Hp) : Option (Int × Hp) :=
  if kK l0 = 11 then
  let h_1 := hput h l0 20 0
  if h l0 20 ≤ 8 then
    ob (loopN (fun q => M_say_L21 l0 (h l0 20) h_1 q) LN 0) (fun q21 =>
      match q21 with
      | .inl e45 =>
        some ((-4), h_1)
      | .inr e54 =>
        let h_2 := hput h_1 l0 32 (h l0 20)
        ob (loopN (fun q => M_say_L61 l0 (h l0 20) q.1 q.2) LN (0, h_2)) (fun e87 =>
          some (h l0 20, e87)))
  else
    some ((-4), h_1)
  else none
def M_place (l0 l1 l2 l3 : Int) : Option (Int) :=
  some (w32 ((w32 ((w32 ((w32 ((w32 ((w32 ((w32 ((w32 (l0 * 10)) + l1)) * 10)) + l2)) + 1)) * 10)) + l3)) + 1))
def M_spanOf (l0 l1 l2 l3 l4 : Int) (h : Hp) : Option (Int) :=
  if kK l0 = 11 then
  ob (M_place l1 l2 l3 l4) (fun r9 =>
    if kK (h l0 36) = 21 ∧ (0 : Int) ≤ r9 ∧ r9 < kL (h l0 36) then
    some (h (h l0 36) r9)
    else none)
  else none
def M_forgets_L2 (l0 : Int) (l1 : Int) (h : Hp) : Option ((Int × Hp) ⊕ (Hp)) :=
  if 43200 ≤ l1 then
    some (.inr h)
  else
    if kK l0 = 11 then
    if kK (h l0 41) = 22 ∧ (0 : Int) ≤ l1 ∧ l1 < kL (h l0 41) then
    let h_1 := hput h (h l0 41) l1 ((-9))
    if kK (h_1 l0 42) = 21 ∧ (0 : Int) ≤ l1 ∧ l1 < kL (h_1 l0 42) then
    let h_2 := hput h_1 (h_1 l0 42) l1 ((-9))
    if kK (h_2 l0 43) = 21 ∧ (0 : Int) ≤ l1 ∧ l1 < kL (h_2 l0 43) then
    let h_3 := hput h_2 (h_2 l0 43) l1 ((-9))
    if kK (h_3 l0 44) = 23 ∧ (0 : Int) ≤ l1 ∧ l1 < kL (h_3 l0 44) then
    let h_4 := hput h_3 (h_3 l0 44) l1 0
    some (.inl (w32 (l1 + 1), h_4))
    else none
    else none
    else none
    else none
    else none
def M_forgets (l0 : Int) (h : Hp) : Option (Hp) :=
  ob (loopN (fun q => M_forgets_L2 l0 q.1 q.2) LN (0, h)) (fun e46 =>
    some e46)
def M_looksAt_L14 (l0 l1 : Int) (l2 : Int) (h : Hp) : Option ((Int × Hp) ⊕ (Hp)) :=
  if kK l0 = 11 then
  if h l0 34 ≤ l2 then
    some (.inr h)
  else
    if kK (h l0 31) = 21 ∧ (0 : Int) ≤ l2 ∧ l2 < kL (h l0 31) then
    if kK (h l0 33) = 21 ∧ (0 : Int) ≤ l2 ∧ l2 < kL (h l0 33) then
    let h_2 := hput h (h l0 33) l2 (h (h l0 31) l2)
    some (.inl (w32 (l2 + 1), h_2))
    else none
    else none
  else none
def M_looksAt (l0 l1 : Int) (h : Hp) : Option (Hp) :=
  if kK l0 = 11 then
  ob (M_forgets l0 h) (fun r1 =>
    let h_1 := hput r1 l0 34 (r1 l0 32)
    ob (loopN (fun q => M_looksAt_L14 l0 l1 q.1 q.2) LN (0, h_1)) (fun e40 =>
      let h_3 := hput e40 l0 35 (i_or (e40 l0 3) l1)
      some h_3))
  else none
def M_sum (l0 l2 : Int) : Option (Int) :=
  some (min 1000000000000001 (w64 (l0 + l2)))
def M_product (l0 l2 : Int) : Option (Int) :=
  if l0 = 0 then
    some 0
  else
    if l2 = 0 then
      some 0
    else
      if l2 ≠ 0 then
      some ((if l0 ≤ w64 (Int.tdiv 1000000000000000 l2) then w64 (l0 * l2) else 1000000000000001))
      else none
def M_mayGo_j38 (h : Hp) : Option (Int) :=
  some 0
def M_mayGo (l0 l1 l2 l3 : Int) (h : Hp) : Option (Int) :=
  if kK l0 = 11 then
  ob (M_isGuest l0 l1 h) (fun r2 =>
    if r2 = l3 then
      ob (M_root l0 l1 h) (fun r15 =>
        if kK (h l0 6) = 21 ∧ (0 : Int) ≤ r15 ∧ r15 < kL (h l0 6) then
        if h (h l0 6) r15 = l2 then
          if i_and (i_shr (h l0 35) l1) 1 = 0 then
            some 1
          else
            M_mayGo_j38 h
        else
          M_mayGo_j38 h
        else none)
    else
      M_mayGo_j38 h)
  else none
def M_gap (l0 l1 : Int) : Option (Int) :=
  some ((if l0 = (-1) then 0 else w32 (l1 - l0)))
def M_hasRoom (l0 l1 l2 l3 l4 l5 : Int) (h : Hp) : Option (Int) :=
  ob (M_gap l4 l5) (fun r7 =>
    if kK l0 = 11 then
    if kK (h l0 13) = 21 ∧ (0 : Int) ≤ l1 ∧ l1 < kL (h l0 13) then
    some ((if w32 ((w32 (l3 - l2)) - r7) < h (h l0 13) l1 then 0 else 1))
    else none
    else none)
def M_keyOf (l0 l1 l2 : Int) : Option (Int) :=
  some (w32 ((w32 ((w32 ((w32 (l0 * 40)) + l1)) * 540)) + l2))
def M_canSplit_j129 (h : Hp) : Option (Int) :=
  some 0
def M_canSplit_j119 (s0 s1 s2 s3 s4 s5 : Int) (h : Hp) : Option (Int) :=
  if kK s5 = 11 then
  ob (M_hasRoom s5 s4 s3 s2 s1 s0 h) (fun r119 =>
    if r119 = 0 then
      M_canSplit_j129 h
    else
      some 1)
  else none
def M_canSplit_j108 (l6 l8 s0 s1 s2 s3 s4 : Int) (h : Hp) : Option (Int) :=
  M_canSplit_j119 ((if l8 = 0 then (-1) else l6)) s0 s1 s2 s3 s4 h
def M_canSplit_j81 (l0 l1 l3 l4 l5 l6 l8 s0 s1 s2 s3 s4 s5 : Int) (h : Hp) : Option (Int) :=
  if kK s5 = 11 then
  ob (M_hasRoom s5 s4 s3 s2 s1 s0 h) (fun r81 =>
    if r81 = 0 then
      M_canSplit_j129 h
    else
      if kK l0 = 11 then
      if kK (h l0 9) = 21 ∧ (0 : Int) ≤ l1 ∧ l1 < kL (h l0 9) then
      M_canSplit_j108 l6 l8 ((if l8 = 0 then (-1) else l5)) l4 l3 (h (h l0 9) l1) l0 h
      else none
      else none)
  else none
def M_canSplit_j70 (l0 l1 l3 l4 l5 l6 l7 l8 s0 s1 s2 s3 s4 : Int) (h : Hp) : Option (Int) :=
  M_canSplit_j81 l0 l1 l3 l4 l5 l6 l8 ((if l7 = 0 then (-1) else l6)) s0 s1 s2 s3 s4 h
def M_canSplit_j50 (l0 l1 l2 l3 l4 l5 l6 l7 l8 : Int) (h : Hp) : Option (Int) :=
  if kK l0 = 11 then
  if kK (h l0 8) = 21 ∧ (0 : Int) ≤ l1 ∧ l1 < kL (h l0 8) then
  M_canSplit_j70 l0 l1 l3 l4 l5 l6 l7 l8 ((if l7 = 0 then (-1) else l5)) l3 l2 (h (h l0 8) l1) l0 h
  else none
  else none
def M_canSplit_j37 (l0 l1 l2 l3 l4 l5 l6 l7 l8 : Int) (h : Hp) : Option (Int) :=
  if l8 = 0 then
    M_canSplit_j50 l0 l1 l2 l3 l4 l5 l6 l7 l8 h
  else
    if l3 ≤ l5 then
      M_canSplit_j50 l0 l1 l2 l3 l4 l5 l6 l7 l8 h
    else
      some 0
def M_canSplit (l0 l1 l2 l3 l4 l5 l6 : Int) (h : Hp) : Option (Int) :=
  if kK l0 = 11 then
  if kK (h l0 8) = 21 ∧ (0 : Int) ≤ l1 ∧ l1 < kL (h l0 8) then
  if kK (h l0 14) = 23 ∧ (0 : Int) ≤ h (h l0 8) l1 ∧ h (h l0 8) l1 < kL (h l0 14) then
  if kK (h l0 9) = 21 ∧ (0 : Int) ≤ l1 ∧ l1 < kL (h l0 9) then
  if kK (h l0 14) = 23 ∧ (0 : Int) ≤ h (h l0 9) l1 ∧ h (h l0 9) l1 < kL (h l0 14) then
  if h (h l0 14) (h (h l0 8) l1) = 0 then
    M_canSplit_j37 l0 l1 l2 l3 l4 l5 l6 (h (h l0 14) (h (h l0 8) l1)) (h (h l0 14) (h (h l0 9) l1)) h
  else
    if l3 < l6 then
      some 0
    else
      M_canSplit_j37 l0 l1 l2 l3 l4 l5 l6 (h (h l0 14) (h (h l0 8) l1)) (h (h l0 14) (h (h l0 9) l1)) h
  else none
  else none
  else none
  else none
  else none
def M_waysOf_j97 (R : Nat → List Int → Hp → Option (Int × Hp)) (d : Nat) (l0 l7 : Int) (h : Hp) : Option (Int × Hp) :=
  if kK l0 = 11 then
  if kK (h l0 41) = 22 ∧ (0 : Int) ≤ l7 ∧ l7 < kL (h l0 41) then
  some (h (h l0 41) l7, h)
  else none
  else none
def M_waysOf_j96 (R : Nat → List Int → Hp → Option (Int × Hp)) (d : Nat) (l0 l7 s0 s1 s2 : Int) (h : Hp) : Option (Int × Hp) :=
  if kK s2 = 22 ∧ (0 : Int) ≤ s1 ∧ s1 < kL s2 then
  let h_1 := hput h s2 s1 s0
  M_waysOf_j97 R d l0 l7 h_1
  else none
def M_waysOf_j84 (R : Nat → List Int → Hp → Option (Int × Hp)) (d : Nat) (l0 l2 l3 l4 l5 l6 l7 s0 s1 : Int) (h : Hp) : Option (Int × Hp) :=
  if kK l0 = 11 then
  ob (R 3 [l0, l2, l3, l4, l5, l6] h) (fun r93 =>
    M_waysOf_j96 R d l0 l7 r93.1 s0 s1 r93.2)
  else none
def M_waysOf_b (R : Nat → List Int → Hp → Option (Int × Hp)) (d : Nat) (l0 l1 l2 l3 l4 l5 l6 : Int) (h : Hp) : Option (Int × Hp) :=
  if kK l0 = 11 then
  ob (M_hasRoom l0 l2 l3 l4 l5 l6 h) (fun r9 =>
    if r9 = 0 then
      some (0, h)
    else
      ob (M_spanOf l0 l3 l4 l5 l6 h) (fun r27 =>
        ob (M_keyOf l1 l2 r27) (fun r30 =>
          if kK (h l0 41) = 22 ∧ (0 : Int) ≤ r30 ∧ r30 < kL (h l0 41) then
          if h (h l0 41) r30 = (-9) then
            if l1 = 1 then
              if kK (h l0 5) = 21 ∧ (0 : Int) ≤ l2 ∧ l2 < kL (h l0 5) then
              if h (h l0 5) l2 = 0 then
                ob (R 1 [l0, l2, l3, l4, l5, l6] h) (fun r78 =>
                  M_waysOf_j96 R d l0 r30 r78.1 r30 (h l0 41) r78.2)
              else
                M_waysOf_j84 R d l0 l2 l3 l4 l5 l6 r30 r30 (h l0 41) h
              else none
            else
              M_waysOf_j84 R d l0 l2 l3 l4 l5 l6 r30 r30 (h l0 41) h
          else
            M_waysOf_j97 R d l0 r30 h
          else none)))
  else none
def M_waysAbove_L104 (R : Nat → List Int → Hp → Option (Int × Hp)) (d : Nat) (l0 l1 l2 l3 l4 l5 l8 l9 : Int) (l6 l10 : Int) (h : Hp) : Option ((Int × Int × Hp) ⊕ (Int × Hp)) :=
  if l3 < l10 then
    some (.inr (l6, h))
  else
    if kK l0 = 11 then
    ob (R 2 [l0, l1, l8, l9, l10, l2, l3, l4, l5] h) (fun r126 =>
      ob (M_sum l6 r126.1) (fun r129 =>
        some (.inl (r129, w32 (l10 + 1), r126.2))))
    else none
def M_waysAbove_j102 (R : Nat → List Int → Hp → Option (Int × Hp)) (d : Nat) (l0 l1 l2 l3 l4 l5 l6 l8 l9 s0 : Int) (h : Hp) : Option ((Int × Int × Hp) ⊕ (Int × Hp)) :=
  ob (loopN (fun q => M_waysAbove_L104 R d l0 l1 l2 l3 l4 l5 l8 l9 q.1 q.2.1 q.2.2) LN (l6, s0, h)) (fun e140 =>
    some (.inl (e140.1, w32 (l9 + 1), e140.2)))
def M_waysAbove_j86 (R : Nat → List Int → Hp → Option (Int × Hp)) (d : Nat) (l0 l1 l2 l3 l4 l5 l6 l8 l9 s0 s1 : Int) (h : Hp) : Option ((Int × Int × Hp) ⊕ (Int × Hp)) :=
  if s0 < s1 then
    some (.inr (l6, h))
  else
    M_waysAbove_j102 R d l0 l1 l2 l3 l4 l5 l6 l8 l9 ((if l4 = (-1) then l9 else l5)) h
def M_waysAbove_L72 (R : Nat → List Int → Hp → Option (Int × Hp)) (d : Nat) (l0 l1 l2 l3 l4 l5 l8 : Int) (l6 l9 : Int) (h : Hp) : Option ((Int × Int × Hp) ⊕ (Int × Hp)) :=
  M_waysAbove_j86 R d l0 l1 l2 l3 l4 l5 l6 l8 l9 ((if l4 = (-1) then l3 else l4)) l9 h
def M_waysAbove_j146 (R : Nat → List Int → Hp → Option (Int × Hp)) (d : Nat) (l0 l1 l2 l3 l4 l5 l6 l8 : Int) (h : Hp) : Option ((Int × Int × Hp) ⊕ (Int × Hp)) :=
  some (.inl (l6, w32 (l8 + 1), h))
def M_waysAbove_L31 (R : Nat → List Int → Hp → Option (Int × Hp)) (d : Nat) (l0 l1 l2 l3 l4 l5 : Int) (l6 l8 : Int) (h : Hp) : Option ((Int × Int × Hp) ⊕ (Int × Hp)) :=
  if kK l0 = 11 then
  if h l0 1 ≤ l8 then
    some (.inr (l6, h))
  else
    if kK (h l0 7) = 21 ∧ (0 : Int) ≤ l1 ∧ l1 < kL (h l0 7) then
    if h (h l0 7) l1 = 1 then
      some (.inr (l6, h))
    else
      if kK (h l0 6) = 21 ∧ (0 : Int) ≤ l1 ∧ l1 < kL (h l0 6) then
      ob (M_mayGo l0 l8 (h (h l0 6) l1) 1 h) (fun r60 =>
        if r60 = 0 then
          M_waysAbove_j146 R d l0 l1 l2 l3 l4 l5 l6 l8 h
        else
          ob (loopN (fun q => M_waysAbove_L72 R d l0 l1 l2 l3 l4 l5 l8 q.1 q.2.1 q.2.2) LN (l6, l2, h)) (fun e146 =>
            M_waysAbove_j146 R d l0 l1 l2 l3 l4 l5 e146.1 l8 e146.2))
      else none
    else none
  else none
def M_waysAbove_j26 (R : Nat → List Int → Hp → Option (Int × Hp)) (d : Nat) (l0 l1 l2 l3 l4 l5 s0 : Int) (h : Hp) : Option (Int × Hp) :=
  ob (loopN (fun q => M_waysAbove_L31 R d l0 l1 l2 l3 l4 l5 q.1 q.2.1 q.2.2) LN (s0, 0, h)) (fun e152 =>
    some (e152.1, e152.2))
def M_waysAbove_b (R : Nat → List Int → Hp → Option (Int × Hp)) (d : Nat) (l0 l1 l2 l3 l4 l5 : Int) (h : Hp) : Option (Int × Hp) :=
  if kK l0 = 11 then
  if kK (h l0 7) = 21 ∧ (0 : Int) ≤ l1 ∧ l1 < kL (h l0 7) then
  if h (h l0 7) l1 = 2 then
    M_waysAbove_j26 R d l0 l1 l2 l3 l4 l5 0 h
  else
    ob (R 0 [l0, 0, l1, l2, l3, l4, l5] h) (fun r23 =>
      M_waysAbove_j26 R d l0 l1 l2 l3 l4 l5 r23.1 r23.2)
  else none
  else none
def M_waysAround_b (R : Nat → List Int → Hp → Option (Int × Hp)) (d : Nat) (l0 l1 l2 l3 l4 l5 l6 l7 l8 : Int) (h : Hp) : Option (Int × Hp) :=
  if kK l0 = 11 then
  ob (M_root l0 l2 h) (fun r3 =>
    ob (M_hasRoom l0 r3 l5 l6 l3 l4 h) (fun r13 =>
      if r13 = 0 then
        some (0, h)
      else
        ob (M_hasRoom l0 l1 l3 l4 l7 l8 h) (fun r28 =>
          if r28 = 0 then
            some (0, h)
          else
            ob (R 0 [l0, 0, l1, l3, l4, l7, l8] h) (fun r46 =>
              if r46.1 = 0 then
                some (0, r46.2)
              else
                ob (M_root l0 l2 r46.2) (fun r68 =>
                  ob (R 0 [l0, 1, r68, l5, l6, l3, l4] r46.2) (fun r78 =>
                    ob (M_product r46.1 r78.1) (fun r81 =>
                      some (r81, r78.2))))))))
  else none
def M_waysBelow_j62 (R : Nat → List Int → Hp → Option (Int × Hp)) (d : Nat) (h : Hp) : Option (Int × Hp) :=
  some (0, h)
def M_waysBelow_j91 (R : Nat → List Int → Hp → Option (Int × Hp)) (d : Nat) (h : Hp) : Option (Int × Hp) :=
  some (0, h)
def M_waysBelow_L135 (R : Nat → List Int → Hp → Option (Int × Hp)) (d : Nat) (l0 l1 l2 l3 l4 l5 : Int) (l6 l8 : Int) (h : Hp) : Option ((Int × Int × Hp) ⊕ (Int × Hp)) :=
  if l3 < l8 then
    some (.inr (l6, h))
  else
    if kK l0 = 11 then
    ob (R 7 [l0, l1, l2, l8, l3, l4, l5] h) (fun r153 =>
      ob (M_sum l6 r153.1) (fun r156 =>
        some (.inl (r156, w32 (l8 + 1), r153.2))))
    else none
def M_waysBelow_b (R : Nat → List Int → Hp → Option (Int × Hp)) (d : Nat) (l0 l1 l2 l3 l4 l5 : Int) (h : Hp) : Option (Int × Hp) :=
  if kK l0 = 11 then
  if kK (h l0 5) = 21 ∧ (0 : Int) ≤ l1 ∧ l1 < kL (h l0 5) then
  if h (h l0 5) l1 = 1 then
    if l3 = w32 (l2 + 1) then
      if kK (h l0 33) = 21 ∧ (0 : Int) ≤ l2 ∧ l2 < kL (h l0 33) then
      if kK (h l0 6) = 21 ∧ (0 : Int) ≤ l1 ∧ l1 < kL (h l0 6) then
      if h (h l0 33) l2 = h (h l0 6) l1 then
        some (1, h)
      else
        M_waysBelow_j62 R d h
      else none
      else none
    else
      M_waysBelow_j62 R d h
  else
    if h (h l0 5) l1 = 2 then
      some ((if l2 = l3 then 1 else 0), h)
    else
      if h (h l0 5) l1 = 3 then
        if l4 = l2 then
          if l5 = l3 then
            some (1, h)
          else
            M_waysBelow_j91 R d h
        else
          M_waysBelow_j91 R d h
      else
        if h (h l0 5) l1 = 4 then
          ob (R 4 [l0, l1, l2, l3] h) (fun r97 =>
            some (r97.1, r97.2))
        else
          if kK (h l0 9) = 21 ∧ (0 : Int) ≤ l1 ∧ l1 < kL (h l0 9) then
          if h (h l0 9) l1 = (-1) then
            if kK (h l0 8) = 21 ∧ (0 : Int) ≤ l1 ∧ l1 < kL (h l0 8) then
            ob (R 0 [l0, 1, h (h l0 8) l1, l2, l3, l4, l5] h) (fun r125 =>
              some (r125.1, r125.2))
            else none
          else
            ob (loopN (fun q => M_waysBelow_L135 R d l0 l1 l2 l3 l4 l5 q.1 q.2.1 q.2.2) LN (0, l2, h)) (fun e167 =>
              some (e167.1, e167.2))
          else none
  else none
  else none
def M_waysHosts_j53 (R : Nat → List Int → Hp → Option (Int × Hp)) (d : Nat) (l0 l1 l2 l3 l4 l6 : Int) (h : Hp) : Option ((Int × Int × Hp) ⊕ (Int × Hp)) :=
  some (.inl (l4, w32 (l6 + 1), h))
def M_waysHosts_L6 (R : Nat → List Int → Hp → Option (Int × Hp)) (d : Nat) (l0 l1 l2 l3 : Int) (l4 l6 : Int) (h : Hp) : Option ((Int × Int × Hp) ⊕ (Int × Hp)) :=
  if kK l0 = 11 then
  if h l0 1 ≤ l6 then
    some (.inr (l4, h))
  else
    if kK (h l0 6) = 21 ∧ (0 : Int) ≤ l1 ∧ l1 < kL (h l0 6) then
    ob (M_mayGo l0 l6 (h (h l0 6) l1) 0 h) (fun r25 =>
      if r25 = 0 then
        M_waysHosts_j53 R d l0 l1 l2 l3 l4 l6 h
      else
        ob (M_root l0 l6 h) (fun r38 =>
          ob (R 0 [l0, 1, r38, l2, l3, (-1), (-1)] h) (fun r45 =>
            ob (M_sum l4 r45.1) (fun r48 =>
              M_waysHosts_j53 R d l0 l1 l2 l3 r48 l6 r45.2))))
    else none
  else none
def M_waysHosts_b (R : Nat → List Int → Hp → Option (Int × Hp)) (d : Nat) (l0 l1 l2 l3 : Int) (h : Hp) : Option (Int × Hp) :=
  ob (loopN (fun q => M_waysHosts_L6 R d l0 l1 l2 l3 q.1 q.2.1 q.2.2) LN (0, 0, h)) (fun e59 =>
    some (e59.1, e59.2))
def M_waysFirst_j45 (R : Nat → List Int → Hp → Option (Int × Hp)) (d : Nat) (s0 s1 s2 s3 s4 s5 s6 : Int) (h : Hp) : Option (Int × Hp) :=
  if kK s6 = 11 then
  ob (R 0 [s6, s5, s4, s3, s2, s1, s0] h) (fun r45 =>
    some (r45.1, r45.2))
  else none
def M_waysFirst_j34 (R : Nat → List Int → Hp → Option (Int × Hp)) (d : Nat) (l5 l6 s0 s1 s2 s3 s4 s5 : Int) (h : Hp) : Option (Int × Hp) :=
  M_waysFirst_j45 R d ((if l6 = 0 then (-1) else l5)) s0 s1 s2 s3 s4 s5 h
def M_waysFirst_b (R : Nat → List Int → Hp → Option (Int × Hp)) (d : Nat) (l0 l1 l2 l3 l4 l5 : Int) (h : Hp) : Option (Int × Hp) :=
  if kK l0 = 11 then
  if kK (h l0 8) = 21 ∧ (0 : Int) ≤ l1 ∧ l1 < kL (h l0 8) then
  if kK (h l0 14) = 23 ∧ (0 : Int) ≤ h (h l0 8) l1 ∧ h (h l0 8) l1 < kL (h l0 14) then
  M_waysFirst_j34 R d l5 (h (h l0 14) (h (h l0 8) l1)) ((if h (h l0 14) (h (h l0 8) l1) = 0 then (-1) else l4)) l3 l2 (h (h l0 8) l1) 1 l0 h
  else none
  else none
  else none
def M_waysSecond_j45 (R : Nat → List Int → Hp → Option (Int × Hp)) (d : Nat) (s0 s1 s2 s3 s4 s5 s6 : Int) (h : Hp) : Option (Int × Hp) :=
  if kK s6 = 11 then
  ob (R 0 [s6, s5, s4, s3, s2, s1, s0] h) (fun r45 =>
    some (r45.1, r45.2))
  else none
def M_waysSecond_j34 (R : Nat → List Int → Hp → Option (Int × Hp)) (d : Nat) (l5 l6 s0 s1 s2 s3 s4 s5 : Int) (h : Hp) : Option (Int × Hp) :=
  M_waysSecond_j45 R d ((if l6 = 0 then (-1) else l5)) s0 s1 s2 s3 s4 s5 h
def M_waysSecond_b (R : Nat → List Int → Hp → Option (Int × Hp)) (d : Nat) (l0 l1 l2 l3 l4 l5 : Int) (h : Hp) : Option (Int × Hp) :=
  if kK l0 = 11 then
  if kK (h l0 9) = 21 ∧ (0 : Int) ≤ l1 ∧ l1 < kL (h l0 9) then
  if kK (h l0 14) = 23 ∧ (0 : Int) ≤ h (h l0 9) l1 ∧ h (h l0 9) l1 < kL (h l0 14) then
  M_waysSecond_j34 R d l5 (h (h l0 14) (h (h l0 9) l1)) ((if h (h l0 14) (h (h l0 9) l1) = 0 then (-1) else l4)) l3 l2 (h (h l0 9) l1) 1 l0 h
  else none
  else none
  else none
def M_waysSplit_b (R : Nat → List Int → Hp → Option (Int × Hp)) (d : Nat) (l0 l1 l2 l3 l4 l5 l6 : Int) (h : Hp) : Option (Int × Hp) :=
  if kK l0 = 11 then
  ob (M_canSplit l0 l1 l2 l3 l4 l5 l6 h) (fun r10 =>
    if r10 = 0 then
      some (0, h)
    else
      ob (R 5 [l0, l1, l2, l3, l5, l6] h) (fun r26 =>
        ob (R 6 [l0, l1, l3, l4, l5, l6] r26.2) (fun r38 =>
          ob (M_product r26.1 r38.1) (fun r41 =>
            some (r41, r38.2)))))
  else none
def M_waysOf_G : Nat → Nat → List Int → Hp → Option (Int × Hp)
  | 0, _, _, _ => none
  | d + 1, k, as, h => if 2 ≤ d then (match k, as with
    | 0, [l0, l1, l2, l3, l4, l5, l6] => M_waysOf_b (M_waysOf_G d) d l0 l1 l2 l3 l4 l5 l6 h
    | 1, [l0, l1, l2, l3, l4, l5] => M_waysAbove_b (M_waysOf_G d) d l0 l1 l2 l3 l4 l5 h
    | 2, [l0, l1, l2, l3, l4, l5, l6, l7, l8] => M_waysAround_b (M_waysOf_G d) d l0 l1 l2 l3 l4 l5 l6 l7 l8 h
    | 3, [l0, l1, l2, l3, l4, l5] => M_waysBelow_b (M_waysOf_G d) d l0 l1 l2 l3 l4 l5 h
    | 4, [l0, l1, l2, l3] => M_waysHosts_b (M_waysOf_G d) d l0 l1 l2 l3 h
    | 5, [l0, l1, l2, l3, l4, l5] => M_waysFirst_b (M_waysOf_G d) d l0 l1 l2 l3 l4 l5 h
    | 6, [l0, l1, l2, l3, l4, l5] => M_waysSecond_b (M_waysOf_G d) d l0 l1 l2 l3 l4 l5 h
    | 7, [l0, l1, l2, l3, l4, l5, l6] => M_waysSplit_b (M_waysOf_G d) d l0 l1 l2 l3 l4 l5 l6 h
    | _, _ => none) else none
def M_waysOf (d : Nat) (l0 l1 l2 l3 l4 l5 l6 : Int) (h : Hp) : Option (Int × Hp) := M_waysOf_G d 0 [l0, l1, l2, l3, l4, l5, l6] h
def M_waysAbove (d : Nat) (l0 l1 l2 l3 l4 l5 : Int) (h : Hp) : Option (Int × Hp) := M_waysOf_G d 1 [l0, l1, l2, l3, l4, l5] h
def M_waysAround (d : Nat) (l0 l1 l2 l3 l4 l5 l6 l7 l8 : Int) (h : Hp) : Option (Int × Hp) := M_waysOf_G d 2 [l0, l1, l2, l3, l4, l5, l6, l7, l8] h
def M_waysBelow (d : Nat) (l0 l1 l2 l3 l4 l5 : Int) (h : Hp) : Option (Int × Hp) := M_waysOf_G d 3 [l0, l1, l2, l3, l4, l5] h
def M_waysHosts (d : Nat) (l0 l1 l2 l3 : Int) (h : Hp) : Option (Int × Hp) := M_waysOf_G d 4 [l0, l1, l2, l3] h
def M_waysFirst (d : Nat) (l0 l1 l2 l3 l4 l5 : Int) (h : Hp) : Option (Int × Hp) := M_waysOf_G d 5 [l0, l1, l2, l3, l4, l5] h
def M_waysSecond (d : Nat) (l0 l1 l2 l3 l4 l5 : Int) (h : Hp) : Option (Int × Hp) := M_waysOf_G d 6 [l0, l1, l2, l3, l4, l5] h
def M_waysSplit (d : Nat) (l0 l1 l2 l3 l4 l5 l6 : Int) (h : Hp) : Option (Int × Hp) := M_waysOf_G d 7 [l0, l1, l2, l3, l4, l5, l6] h
def M_best_j10 (l1 l2 : Int) : Option (Int) :=
  some (max l1 l2)
def M_best (l0 l1 l2 l3 : Int) : Option (Int) :=
  if l1 = (-1) then
    M_best_j10 l1 l2
  else
    if l2 = (-1) then
      M_best_j10 l1 l2
    else
      some ((if l3 = 0 then min l1 l2 else max l1 l2))
def M_both (l0 l1 : Int) : Option (Int) :=
  some ((if l0 = (-1) then (-1) else (if l1 = (-1) then (-1) else w32 (l0 + l1))))
def M_stepsIn_j116 (R : Nat → List Int → Hp → Option (Int × Hp)) (d : Nat) (l8 l9 : Int) (h : Hp) : Option (Int × Hp) :=
  if kK l9 = 21 ∧ (0 : Int) ≤ l8 ∧ l8 < kL l9 then
  some (h l9 l8, h)
  else none
def M_stepsIn_j115 (R : Nat → List Int → Hp → Option (Int × Hp)) (d : Nat) (l8 l9 s0 s1 s2 : Int) (h : Hp) : Option (Int × Hp) :=
  if kK s2 = 21 ∧ (0 : Int) ≤ s1 ∧ s1 < kL s2 then
  let h_1 := hput h s2 s1 s0
  M_stepsIn_j116 R d l8 l9 h_1
  else none
def M_stepsIn_j101 (R : Nat → List Int → Hp → Option (Int × Hp)) (d : Nat) (l0 l2 l3 l4 l5 l6 l7 l8 l9 s0 s1 : Int) (h : Hp) : Option (Int × Hp) :=
  if kK l0 = 11 then
  ob (R 2 [l0, l2, l3, l4, l5, l6, l7] h) (fun r112 =>
    M_stepsIn_j115 R d l8 l9 r112.1 s0 s1 r112.2)
  else none
def M_stepsIn_j54 (R : Nat → List Int → Hp → Option (Int × Hp)) (d : Nat) (l0 l1 l2 l3 l4 l5 l6 l7 l8 s0 : Int) (h : Hp) : Option (Int × Hp) :=
  if s0 ≠ -1 then
  if kK s0 = 21 ∧ (0 : Int) ≤ l8 ∧ l8 < kL s0 then
  if h s0 l8 = (-9) then
    if l1 = 1 then
      if kK l0 = 11 then
      if kK (h l0 5) = 21 ∧ (0 : Int) ≤ l2 ∧ l2 < kL (h l0 5) then
      if h (h l0 5) l2 = 0 then
        ob (R 1 [l0, l2, l3, l4, l5, l6, l7] h) (fun r95 =>
          M_stepsIn_j115 R d l8 s0 r95.1 l8 s0 r95.2)
      else
        M_stepsIn_j101 R d l0 l2 l3 l4 l5 l6 l7 l8 s0 l8 s0 h
      else none
      else none
    else
      M_stepsIn_j101 R d l0 l2 l3 l4 l5 l6 l7 l8 s0 l8 s0 h
  else
    M_stepsIn_j116 R d l8 s0 h
  else none
  else none
def M_stepsIn_b (R : Nat → List Int → Hp → Option (Int × Hp)) (d : Nat) (l0 l1 l2 l3 l4 l5 l6 l7 : Int) (h : Hp) : Option (Int × Hp) :=
  if kK l0 = 11 then
  ob (M_waysOf d l0 l1 l2 l3 l4 l5 l6 h) (fun r10 =>
    if r10.1 = 0 then
      some ((-1), r10.2)
    else
      ob (M_spanOf l0 l3 l4 l5 l6 r10.2) (fun r30 =>
        ob (M_keyOf l1 l2 r30) (fun r33 =>
          M_stepsIn_j54 R d l0 l1 l2 l3 l4 l5 l6 l7 r33 ((if l7 = 0 then r10.2 l0 42 else r10.2 l0 43)) r10.2)))
  else none
def M_stepsAbove_j187 (R : Nat → List Int → Hp → Option (Int × Hp)) (d : Nat) (l0 l1 l2 l3 l4 l5 l6 l7 l8 l9 l10 : Int) (h : Hp) : Option ((Int × Int × Hp) ⊕ (Int × Hp)) :=
  some (.inl (l7, w32 (l10 + 1), h))
def M_stepsAbove_L106 (R : Nat → List Int → Hp → Option (Int × Hp)) (d : Nat) (l0 l1 l2 l3 l4 l5 l6 l8 l9 : Int) (l7 l10 : Int) (h : Hp) : Option ((Int × Int × Hp) ⊕ (Int × Hp)) :=
  if l3 < l10 then
    some (.inr (l7, h))
  else
    if kK l0 = 11 then
    ob (M_waysAround d l0 l1 l8 l9 l10 l2 l3 l4 l5 h) (fun r126 =>
      if r126.1 = 0 then
        M_stepsAbove_j187 R d l0 l1 l2 l3 l4 l5 l6 l7 l8 l9 l10 r126.2
      else
        ob (M_root l0 l8 r126.2) (fun r146 =>
          ob (R 0 [l0, 1, r146, l2, l3, l9, l10, l6] r126.2) (fun r157 =>
            ob (R 0 [l0, 0, l1, l9, l10, l4, l5, l6] r157.2) (fun r174 =>
              ob (M_both (w32 (1 + r157.1)) r174.1) (fun r177 =>
                ob (M_best l0 l7 r177 l6) (fun r182 =>
                  M_stepsAbove_j187 R d l0 l1 l2 l3 l4 l5 l6 r182 l8 l9 l10 r174.2))))))
    else none
def M_stepsAbove_j104 (R : Nat → List Int → Hp → Option (Int × Hp)) (d : Nat) (l0 l1 l2 l3 l4 l5 l6 l7 l8 l9 s0 : Int) (h : Hp) : Option ((Int × Int × Hp) ⊕ (Int × Hp)) :=
  ob (loopN (fun q => M_stepsAbove_L106 R d l0 l1 l2 l3 l4 l5 l6 l8 l9 q.1 q.2.1 q.2.2) LN (l7, s0, h)) (fun e193 =>
    some (.inl (e193.1, w32 (l9 + 1), e193.2)))
def M_stepsAbove_j88 (R : Nat → List Int → Hp → Option (Int × Hp)) (d : Nat) (l0 l1 l2 l3 l4 l5 l6 l7 l8 l9 s0 s1 : Int) (h : Hp) : Option ((Int × Int × Hp) ⊕ (Int × Hp)) :=
  if s0 < s1 then
    some (.inr (l7, h))
  else
    M_stepsAbove_j104 R d l0 l1 l2 l3 l4 l5 l6 l7 l8 l9 ((if l4 = (-1) then l9 else l5)) h
def M_stepsAbove_L74 (R : Nat → List Int → Hp → Option (Int × Hp)) (d : Nat) (l0 l1 l2 l3 l4 l5 l6 l8 : Int) (l7 l9 : Int) (h : Hp) : Option ((Int × Int × Hp) ⊕ (Int × Hp)) :=
  M_stepsAbove_j88 R d l0 l1 l2 l3 l4 l5 l6 l7 l8 l9 ((if l4 = (-1) then l3 else l4)) l9 h
def M_stepsAbove_j199 (R : Nat → List Int → Hp → Option (Int × Hp)) (d : Nat) (l0 l1 l2 l3 l4 l5 l6 l7 l8 : Int) (h : Hp) : Option ((Int × Int × Hp) ⊕ (Int × Hp)) :=
  some (.inl (l7, w32 (l8 + 1), h))
def M_stepsAbove_L33 (R : Nat → List Int → Hp → Option (Int × Hp)) (d : Nat) (l0 l1 l2 l3 l4 l5 l6 : Int) (l7 l8 : Int) (h : Hp) : Option ((Int × Int × Hp) ⊕ (Int × Hp)) :=
  if kK l0 = 11 then
  if h l0 1 ≤ l8 then
    some (.inr (l7, h))
  else
    if kK (h l0 7) = 21 ∧ (0 : Int) ≤ l1 ∧ l1 < kL (h l0 7) then
    if h (h l0 7) l1 = 1 then
      some (.inr (l7, h))
    else
      if kK (h l0 6) = 21 ∧ (0 : Int) ≤ l1 ∧ l1 < kL (h l0 6) then
      ob (M_mayGo l0 l8 (h (h l0 6) l1) 1 h) (fun r62 =>
        if r62 = 0 then
          M_stepsAbove_j199 R d l0 l1 l2 l3 l4 l5 l6 l7 l8 h
        else
          ob (loopN (fun q => M_stepsAbove_L74 R d l0 l1 l2 l3 l4 l5 l6 l8 q.1 q.2.1 q.2.2) LN (l7, l2, h)) (fun e199 =>
            M_stepsAbove_j199 R d l0 l1 l2 l3 l4 l5 l6 e199.1 l8 e199.2))
      else none
    else none
  else none
def M_stepsAbove_j28 (R : Nat → List Int → Hp → Option (Int × Hp)) (d : Nat) (l0 l1 l2 l3 l4 l5 l6 s0 : Int) (h : Hp) : Option (Int × Hp) :=
  ob (loopN (fun q => M_stepsAbove_L33 R d l0 l1 l2 l3 l4 l5 l6 q.1 q.2.1 q.2.2) LN (s0, 0, h)) (fun e205 =>
    some (e205.1, e205.2))
def M_stepsAbove_b (R : Nat → List Int → Hp → Option (Int × Hp)) (d : Nat) (l0 l1 l2 l3 l4 l5 l6 : Int) (h : Hp) : Option (Int × Hp) :=
  if kK l0 = 11 then
  if kK (h l0 7) = 21 ∧ (0 : Int) ≤ l1 ∧ l1 < kL (h l0 7) then
  if h (h l0 7) l1 = 2 then
    M_stepsAbove_j28 R d l0 l1 l2 l3 l4 l5 l6 ((-1)) h
  else
    ob (R 0 [l0, 0, l1, l2, l3, l4, l5, l6] h) (fun r25 =>
      M_stepsAbove_j28 R d l0 l1 l2 l3 l4 l5 l6 r25.1 r25.2)
  else none
  else none
def M_stepsBelow_j278 (R : Nat → List Int → Hp → Option (Int × Hp)) (d : Nat) (l0 l1 l2 l3 l4 l5 l6 l7 l8 : Int) (h : Hp) : Option ((Int × Int × Hp) ⊕ (Int × Hp)) :=
  some (.inl (l7, w32 (l8 + 1), h))
def M_stepsBelow_j263 (R : Nat → List Int → Hp → Option (Int × Hp)) (d : Nat) (l0 l1 l2 l3 l4 l5 l6 l8 s0 s1 s2 s3 s4 s5 s6 s7 s8 s9 : Int) (h : Hp) : Option ((Int × Int × Hp) ⊕ (Int × Hp)) :=
  if kK s6 = 11 then
  ob (R 0 [s6, s5, s4, s3, s2, s1, s0, l6] h) (fun r265 =>
    ob (M_both s7 r265.1) (fun r268 =>
      if kK s9 = 11 then
      ob (M_best s9 s8 r268 l6) (fun r273 =>
        M_stepsBelow_j278 R d l0 l1 l2 l3 l4 l5 l6 r273 l8 r265.2)
      else none))
  else none
def M_stepsBelow_j252 (R : Nat → List Int → Hp → Option (Int × Hp)) (d : Nat) (l0 l1 l2 l3 l4 l5 l6 l8 l10 s0 s1 s2 s3 s4 s5 s6 s7 s8 : Int) (h : Hp) : Option ((Int × Int × Hp) ⊕ (Int × Hp)) :=
  M_stepsBelow_j263 R d l0 l1 l2 l3 l4 l5 l6 l8 ((if l10 = 0 then (-1) else l5)) s0 s1 s2 s3 s4 s5 s6 s7 s8 h
def M_stepsBelow_j225 (R : Nat → List Int → Hp → Option (Int × Hp)) (d : Nat) (l0 l1 l2 l3 l4 l5 l6 l8 l10 s0 s1 s2 s3 s4 s5 s6 s7 s8 : Int) (h : Hp) : Option ((Int × Int × Hp) ⊕ (Int × Hp)) :=
  if kK s6 = 11 then
  ob (R 0 [s6, s5, s4, s3, s2, s1, s0, l6] h) (fun r227 =>
    if kK l0 = 11 then
    if kK (r227.2 l0 9) = 21 ∧ (0 : Int) ≤ l1 ∧ l1 < kL (r227.2 l0 9) then
    M_stepsBelow_j252 R d l0 l1 l2 l3 l4 l5 l6 l8 l10 ((if l10 = 0 then (-1) else l4)) l3 l8 (r227.2 (r227.2 l0 9) l1) 1 l0 r227.1 s7 s8 r227.2
    else none
    else none)
  else none
def M_stepsBelow_j214 (R : Nat → List Int → Hp → Option (Int × Hp)) (d : Nat) (l0 l1 l2 l3 l4 l5 l6 l8 l9 l10 s0 s1 s2 s3 s4 s5 s6 s7 : Int) (h : Hp) : Option ((Int × Int × Hp) ⊕ (Int × Hp)) :=
  M_stepsBelow_j225 R d l0 l1 l2 l3 l4 l5 l6 l8 l10 ((if l9 = 0 then (-1) else l5)) s0 s1 s2 s3 s4 s5 s6 s7 h
def M_stepsBelow_L136 (R : Nat → List Int → Hp → Option (Int × Hp)) (d : Nat) (l0 l1 l2 l3 l4 l5 l6 : Int) (l7 l8 : Int) (h : Hp) : Option ((Int × Int × Hp) ⊕ (Int × Hp)) :=
  if l3 < l8 then
    some (.inr (l7, h))
  else
    if kK l0 = 11 then
    ob (M_waysSplit d l0 l1 l2 l8 l3 l4 l5 h) (fun r152 =>
      if r152.1 = 0 then
        M_stepsBelow_j278 R d l0 l1 l2 l3 l4 l5 l6 l7 l8 r152.2
      else
        if kK (r152.2 l0 8) = 21 ∧ (0 : Int) ≤ l1 ∧ l1 < kL (r152.2 l0 8) then
        if kK (r152.2 l0 14) = 23 ∧ (0 : Int) ≤ r152.2 (r152.2 l0 8) l1 ∧ r152.2 (r152.2 l0 8) l1 < kL (r152.2 l0 14) then
        if kK (r152.2 l0 9) = 21 ∧ (0 : Int) ≤ l1 ∧ l1 < kL (r152.2 l0 9) then
        if kK (r152.2 l0 14) = 23 ∧ (0 : Int) ≤ r152.2 (r152.2 l0 9) l1 ∧ r152.2 (r152.2 l0 9) l1 < kL (r152.2 l0 14) then
        M_stepsBelow_j214 R d l0 l1 l2 l3 l4 l5 l6 l8 (r152.2 (r152.2 l0 14) (r152.2 (r152.2 l0 8) l1)) (r152.2 (r152.2 l0 14) (r152.2 (r152.2 l0 9) l1)) ((if r152.2 (r152.2 l0 14) (r152.2 (r152.2 l0 8) l1) = 0 then (-1) else l4)) l8 l2 (r152.2 (r152.2 l0 8) l1) 1 l0 l7 l0 r152.2
        else none
        else none
        else none
        else none)
    else none
def M_stepsBelow_j62 (R : Nat → List Int → Hp → Option (Int × Hp)) (d : Nat) (l0 l1 l2 l3 l6 l7 l8 s0 : Int) (h : Hp) : Option ((Int × Int × Hp) ⊕ (Int × Hp)) :=
  ob (M_both s0 1) (fun r70 =>
    if kK l0 = 11 then
    ob (M_best l0 l7 r70 l6) (fun r75 =>
      some (.inl (r75, w32 (l8 + 1), h)))
    else none)
def M_stepsBelow_L16 (R : Nat → List Int → Hp → Option (Int × Hp)) (d : Nat) (l0 l1 l2 l3 l6 : Int) (l7 l8 : Int) (h : Hp) : Option ((Int × Int × Hp) ⊕ (Int × Hp)) :=
  if kK l0 = 11 then
  if h l0 1 ≤ l8 then
    some (.inr (l7, h))
  else
    if kK (h l0 6) = 21 ∧ (0 : Int) ≤ l1 ∧ l1 < kL (h l0 6) then
    ob (M_mayGo l0 l8 (h (h l0 6) l1) 0 h) (fun r35 =>
      if r35 = 0 then
        M_stepsBelow_j62 R d l0 l1 l2 l3 l6 l7 l8 ((-1)) h
      else
        ob (M_root l0 l8 h) (fun r46 =>
          ob (R 0 [l0, 1, r46, l2, l3, (-1), (-1), l6] h) (fun r55 =>
            M_stepsBelow_j62 R d l0 l1 l2 l3 l6 l7 l8 r55.1 r55.2)))
    else none
  else none
def M_stepsBelow_b (R : Nat → List Int → Hp → Option (Int × Hp)) (d : Nat) (l0 l1 l2 l3 l4 l5 l6 : Int) (h : Hp) : Option (Int × Hp) :=
  if kK l0 = 11 then
  if kK (h l0 5) = 21 ∧ (0 : Int) ≤ l1 ∧ l1 < kL (h l0 5) then
  if h (h l0 5) l1 = 4 then
    ob (loopN (fun q => M_stepsBelow_L16 R d l0 l1 l2 l3 l6 q.1 q.2.1 q.2.2) LN ((-1), 0, h)) (fun e86 =>
      some (e86.1, e86.2))
  else
    if h (h l0 5) l1 = 0 then
      if kK (h l0 9) = 21 ∧ (0 : Int) ≤ l1 ∧ l1 < kL (h l0 9) then
      if h (h l0 9) l1 = (-1) then
        if kK (h l0 8) = 21 ∧ (0 : Int) ≤ l1 ∧ l1 < kL (h l0 8) then
        ob (R 0 [l0, 1, h (h l0 8) l1, l2, l3, l4, l5, l6] h) (fun r126 =>
          some (r126.1, r126.2))
        else none
      else
        ob (loopN (fun q => M_stepsBelow_L136 R d l0 l1 l2 l3 l4 l5 l6 q.1 q.2.1 q.2.2) LN ((-1), l2, h)) (fun e284 =>
          some (e284.1, e284.2))
      else none
    else
      some (0, h)
  else none
  else none
def M_stepsIn_G : Nat → Nat → List Int → Hp → Option (Int × Hp)
  | 0, _, _, _ => none
  | d + 1, k, as, h => if 1 ≤ d then (match k, as with
    | 0, [l0, l1, l2, l3, l4, l5, l6, l7] => M_stepsIn_b (M_stepsIn_G d) d l0 l1 l2 l3 l4 l5 l6 l7 h
    | 1, [l0, l1, l2, l3, l4, l5, l6] => M_stepsAbove_b (M_stepsIn_G d) d l0 l1 l2 l3 l4 l5 l6 h
    | 2, [l0, l1, l2, l3, l4, l5, l6] => M_stepsBelow_b (M_stepsIn_G d) d l0 l1 l2 l3 l4 l5 l6 h
    | _, _ => none) else none
def M_stepsIn (d : Nat) (l0 l1 l2 l3 l4 l5 l6 l7 : Int) (h : Hp) : Option (Int × Hp) := M_stepsIn_G d 0 [l0, l1, l2, l3, l4, l5, l6, l7] h
def M_stepsAbove (d : Nat) (l0 l1 l2 l3 l4 l5 l6 : Int) (h : Hp) : Option (Int × Hp) := M_stepsIn_G d 1 [l0, l1, l2, l3, l4, l5, l6] h
def M_stepsBelow (d : Nat) (l0 l1 l2 l3 l4 l5 l6 : Int) (h : Hp) : Option (Int × Hp) := M_stepsIn_G d 2 [l0, l1, l2, l3, l4, l5, l6] h
def M_bitsOf_j29 (l0 l1 l3 s0 s1 : Int) (h : Hp) : Option ((Int × Int) ⊕ (Int)) :=
  some (.inl (i_or s1 s0, w32 (l3 + 1)))
def M_bitsOf_L4 (l0 l1 : Int) (h : Hp) (l2 l3 : Int) : Option ((Int × Int) ⊕ (Int)) :=
  if kK l0 = 11 then
  if h l0 1 ≤ l3 then
    some (.inr l2)
  else
    ob (M_isGuest l0 l3 h) (fun r15 =>
      M_bitsOf_j29 l0 l1 l3 ((if r15 = l1 then i_shl 1 l3 else 0)) l2 h)
  else none
def M_bitsOf (l0 l1 : Int) (h : Hp) : Option (Int) :=
  ob (loopN (fun q => M_bitsOf_L4 l0 l1 h q.1 q.2) LN (0, 0)) (fun e37 =>
    some e37)
def M_lettersOfAll_j35 (l0 l2 s0 s1 : Int) (h : Hp) : Option ((Int × Int) ⊕ (Int)) :=
  some (.inl (i_or s1 s0, w32 (l2 + 1)))
def M_lettersOfAll_L4 (l0 : Int) (h : Hp) (l1 l2 : Int) : Option ((Int × Int) ⊕ (Int)) :=
  if kK l0 = 11 then
  if h l0 2 ≤ l2 then
    some (.inr l1)
  else
    if kK (h l0 5) = 21 ∧ (0 : Int) ≤ l2 ∧ l2 < kL (h l0 5) then
    if h (h l0 5) l2 = 1 then
      if kK (h l0 6) = 21 ∧ (0 : Int) ≤ l2 ∧ l2 < kL (h l0 6) then
      M_lettersOfAll_j35 l0 l2 (i_shl 1 (h (h l0 6) l2)) l1 h
      else none
    else
      M_lettersOfAll_j35 l0 l2 0 l1 h
    else none
  else none
def M_lettersOfAll (l0 : Int) (h : Hp) : Option (Int) :=
  ob (loopN (fun q => M_lettersOfAll_L4 l0 h q.1 q.2) LN (0, 0)) (fun e43 =>
    some e43)
def M_start (l0 : Int) (h : Hp) : Option (Int) :=
  if kK l0 = 11 then
  if h l0 1 = 0 then
    some ((-1))
  else
    if kK (h l0 6) = 21 ∧ (0 : Int) ≤ 0 ∧ 0 < kL (h l0 6) then
    some (h (h l0 6) 0)
    else none
  else none
def M_count (l0 l1 : Int) (h : Hp) : Option (Int) :=
  if l1 = 0 then
    if kK l0 = 11 then
    some (h l0 1)
    else none
  else
    if l1 = 1 then
      if kK l0 = 11 then
      some (h l0 2)
      else none
    else
      if l1 = 2 then
        if kK l0 = 11 then
        some (h l0 32)
        else none
      else
        if l1 = 3 then
          if kK l0 = 11 then
          ob (M_bitsOf l0 0 h) (fun r73 =>
            some r73)
          else none
        else
          if l1 = 4 then
            if kK l0 = 11 then
            ob (M_bitsOf l0 1 h) (fun r79 =>
              some r79)
            else none
          else
            if l1 = 5 then
              if kK l0 = 11 then
              some (h l0 3)
              else none
            else
              if l1 = 6 then
                if kK l0 = 11 then
                ob (M_start l0 h) (fun r89 =>
                  some r89)
                else none
              else
                if l1 = 7 then
                  if kK l0 = 11 then
                  ob (M_lettersOfAll l0 h) (fun r94 =>
                    some r94)
                  else none
                else
                  if l1 = 8 then
                    if kK l0 = 11 then
                    some (h l0 20)
                    else none
                  else
                    if l1 = 9 then
                      if kK l0 = 11 then
                      some (h l0 57)
                      else none
                    else
                      some ((-1))
def M_tree (l0 l1 l2 : Int) (h : Hp) : Option (Int) :=
  if kK l0 = 11 then
  ob (M_isTree l0 l1 h) (fun r2 =>
    if r2 = 0 then
      some ((-2))
    else
      if l2 = 0 then
        ob (M_isGuest l0 l1 h) (fun r54 =>
          some ((if r54 = 0 then 0 else 1)))
      else
        if l2 = 1 then
          ob (M_nodesOf l0 l1 h) (fun r68 =>
            some r68)
        else
          if l2 = 2 then
            ob (M_root l0 l1 h) (fun r78 =>
              if kK (h l0 6) = 21 ∧ (0 : Int) ≤ r78 ∧ r78 < kL (h l0 6) then
              some (h (h l0 6) r78)
              else none)
          else
            if l2 = 3 then
              if kK (h l0 16) = 21 ∧ (0 : Int) ≤ l1 ∧ l1 < kL (h l0 16) then
              some (h (h l0 16) l1)
              else none
            else
              if l2 = 4 then
                if kK (h l0 17) = 21 ∧ (0 : Int) ≤ l1 ∧ l1 < kL (h l0 17) then
                some (h (h l0 17) l1)
                else none
              else
                if l2 = 5 then
                  if kK (h l0 18) = 21 ∧ (0 : Int) ≤ l1 ∧ l1 < kL (h l0 18) then
                  some (h (h l0 18) l1)
                  else none
                else
                  some ((-2)))
  else none
def M_own (l0 l1 l2 : Int) (h : Hp) : Option (Int) :=
  if l2 = (-1) then
    some ((-1))
  else
    if kK l0 = 11 then
    if kK (h l0 4) = 21 ∧ (0 : Int) ≤ l1 ∧ l1 < kL (h l0 4) then
    some (w32 (l2 - (h (h l0 4) l1)))
    else none
    else none
def M_node (l0 l1 l2 l3 : Int) (h : Hp) : Option (Int) :=
  if kK l0 = 11 then
  ob (M_isNode l0 l1 l2 h) (fun r3 =>
    if r3 = 0 then
      some ((-2))
    else
      if kK (h l0 4) = 21 ∧ (0 : Int) ≤ l1 ∧ l1 < kL (h l0 4) then
      if l3 = 0 then
        if kK (h l0 5) = 21 ∧ (0 : Int) ≤ w32 ((h (h l0 4) l1) + l2) ∧ w32 ((h (h l0 4) l1) + l2) < kL (h l0 5) then
        some (h (h l0 5) (w32 ((h (h l0 4) l1) + l2)))
        else none
      else
        if l3 = 1 then
          if kK (h l0 6) = 21 ∧ (0 : Int) ≤ w32 ((h (h l0 4) l1) + l2) ∧ w32 ((h (h l0 4) l1) + l2) < kL (h l0 6) then
          some (h (h l0 6) (w32 ((h (h l0 4) l1) + l2)))
          else none
        else
          if l3 = 2 then
            if kK (h l0 7) = 21 ∧ (0 : Int) ≤ w32 ((h (h l0 4) l1) + l2) ∧ w32 ((h (h l0 4) l1) + l2) < kL (h l0 7) then
            some (h (h l0 7) (w32 ((h (h l0 4) l1) + l2)))
            else none
          else
            if l3 = 3 then
              if kK (h l0 8) = 21 ∧ (0 : Int) ≤ w32 ((h (h l0 4) l1) + l2) ∧ w32 ((h (h l0 4) l1) + l2) < kL (h l0 8) then
              ob (M_own l0 l1 (h (h l0 8) (w32 ((h (h l0 4) l1) + l2))) h) (fun r97 =>
                some r97)
              else none
            else
              if l3 = 4 then
                if kK (h l0 9) = 21 ∧ (0 : Int) ≤ w32 ((h (h l0 4) l1) + l2) ∧ w32 ((h (h l0 4) l1) + l2) < kL (h l0 9) then
                ob (M_own l0 l1 (h (h l0 9) (w32 ((h (h l0 4) l1) + l2))) h) (fun r110 =>
                  some r110)
                else none
              else
                if l3 = 5 then
                  if kK (h l0 10) = 21 ∧ (0 : Int) ≤ w32 ((h (h l0 4) l1) + l2) ∧ w32 ((h (h l0 4) l1) + l2) < kL (h l0 10) then
                  ob (M_own l0 l1 (h (h l0 10) (w32 ((h (h l0 4) l1) + l2))) h) (fun r123 =>
                    some r123)
                  else none
                else
                  if l3 = 6 then
                    if kK (h l0 14) = 23 ∧ (0 : Int) ≤ w32 ((h (h l0 4) l1) + l2) ∧ w32 ((h (h l0 4) l1) + l2) < kL (h l0 14) then
                    some ((if h (h l0 14) (w32 ((h (h l0 4) l1) + l2)) = 0 then 0 else 1))
                    else none
                  else
                    some ((-2))
      else none)
  else none
def M_out_j53 (l0 l3 s0 s1 : Int) (h : Hp) : Option (Int × Hp) :=
  if kK s1 = 11 then
  let h_1 := hput h s1 3 s0
  if kK l0 = 11 then
  some ((if l3 = h_1 l0 3 then 0 else 1), h_1)
  else none
  else none
def M_out (l0 l1 l2 : Int) (h : Hp) : Option (Int × Hp) :=
  if kK l0 = 11 then
  ob (M_isTree l0 l1 h) (fun r2 =>
    if r2 = 0 then
      some ((-2), h)
    else
      ob (M_in l2 0 1) (fun r12 =>
        if r12 = 0 then
          some ((-2), h)
        else
          M_out_j53 l0 (h l0 3) ((if l2 = 1 then i_or (h l0 3) (i_shl 1 l1) else i_and (h l0 3) (i_xor (i_shl 1 l1) ((-1))))) l0 h))
  else none
def M_marks (l0 l1 l2 l3 : Int) (h : Hp) : Option (Int × Hp) :=
  if kK l0 = 11 then
  ob (M_isNode l0 l1 l2 h) (fun r3 =>
    if r3 = 0 then
      some ((-2), h)
    else
      ob (M_in l3 0 2) (fun r15 =>
        if r15 = 0 then
          some ((-2), h)
        else
          if kK (h l0 4) = 21 ∧ (0 : Int) ≤ l1 ∧ l1 < kL (h l0 4) then
          if kK (h l0 5) = 21 ∧ (0 : Int) ≤ w32 ((h (h l0 4) l1) + l2) ∧ w32 ((h (h l0 4) l1) + l2) < kL (h l0 5) then
          if h (h l0 5) (w32 ((h (h l0 4) l1) + l2)) = 0 then
            if kK (h l0 7) = 21 ∧ (0 : Int) ≤ w32 ((h (h l0 4) l1) + l2) ∧ w32 ((h (h l0 4) l1) + l2) < kL (h l0 7) then
            let h_1 := hput h (h l0 7) (w32 ((h (h l0 4) l1) + l2)) l3
            some (h (h l0 7) (w32 ((h (h l0 4) l1) + l2)), h_1)
            else none
          else
            some ((-2), h)
          else none
          else none))
  else none
def M_toldAs (l0 : Int) : Option (Int) :=
  some ((if l0 ≤ 1000000000000000 then l0 else (-3)))
def M_isSpan_j21 (h : Hp) : Option (Int) :=
  some 0
def M_isSpan (l0 l1 l2 : Int) (h : Hp) : Option (Int) :=
  if l1 < 0 then
    M_isSpan_j21 h
  else
    if l2 < l1 then
      M_isSpan_j21 h
    else
      if kK l0 = 11 then
      if h l0 32 < l2 then
        M_isSpan_j21 h
      else
        some 1
      else none
def M_isGap_j30 (h : Hp) : Option (Int) :=
  some 0
def M_isGap (l0 l1 l2 l3 l4 : Int) (h : Hp) : Option (Int) :=
  if kK l0 = 11 then
  ob (M_isSpan l0 l1 l2 h) (fun r3 =>
    if r3 = 0 then
      M_isGap_j30 h
    else
      if l3 < l1 then
        M_isGap_j30 h
      else
        if l4 < l3 then
          M_isGap_j30 h
        else
          if l2 < l4 then
            M_isGap_j30 h
          else
            some 1)
  else none
def M_over_j82 (d : Nat) (l0 l1 l2 l3 l4 l5 l6 l7 s0 : Int) (h : Hp) : Option (Int × Hp) :=
  if s0 = 0 then
    some ((-2), h)
  else
    if kK l0 = 11 then
    ob (M_isOut l0 l1 h) (fun r95 =>
      if r95 = 0 then
        ob (M_looksAt l0 0 h) (fun r105 =>
          if kK (r105 l0 4) = 21 ∧ (0 : Int) ≤ l1 ∧ l1 < kL (r105 l0 4) then
          ob (M_waysOf (d - 1) l0 l3 (w32 ((r105 (r105 l0 4) l1) + l2)) l4 l5 l6 l7 r105) (fun r126 =>
            ob (M_toldAs r126.1) (fun r129 =>
              some (r129, r126.2)))
          else none)
      else
        some (0, h))
    else none
def M_over_j81 (d : Nat) (l0 l1 l2 l3 l4 l5 l6 l7 : Int) (h : Hp) : Option (Int × Hp) :=
  M_over_j82 d l0 l1 l2 l3 l4 l5 l6 l7 0 h
def M_over (d : Nat) (l0 l1 l2 l3 l4 l5 l6 l7 : Int) (h : Hp) : Option (Int × Hp) :=
  if kK l0 = 11 then
  ob (M_isNode l0 l1 l2 h) (fun r3 =>
    if r3 = 0 then
      some ((-2), h)
    else
      ob (M_in l3 0 1) (fun r13 =>
        if r13 = 0 then
          some ((-2), h)
        else
          if kK (h l0 4) = 21 ∧ (0 : Int) ≤ l1 ∧ l1 < kL (h l0 4) then
          if kK (h l0 14) = 23 ∧ (0 : Int) ≤ w32 ((h (h l0 4) l1) + l2) ∧ w32 ((h (h l0 4) l1) + l2) < kL (h l0 14) then
          if h (h l0 14) (w32 ((h (h l0 4) l1) + l2)) = 0 then
            ob (M_isSpan l0 l4 l5 h) (fun r59 =>
              if r59 = 0 then
                M_over_j81 d l0 l1 l2 l3 l4 l5 l6 l7 h
              else
                if l6 = (-1) then
                  if l7 = (-1) then
                    M_over_j82 d l0 l1 l2 l3 l4 l5 l6 l7 1 h
                  else
                    M_over_j81 d l0 l1 l2 l3 l4 l5 l6 l7 h
                else
                  M_over_j81 d l0 l1 l2 l3 l4 l5 l6 l7 h)
          else
            ob (M_isGap l0 l4 l5 l6 l7 h) (fun r48 =>
              M_over_j82 d l0 l1 l2 l3 l4 l5 l6 l7 r48 h)
          else none
          else none))
  else none
def M_items_j146 (d : Nat) (l0 l1 l2 l3 l4 : Int) (h : Hp) : Option ((Int × Int × Hp) ⊕ (Int × Hp)) :=
  some (.inl (l2, w32 (l4 + 1), h))
def M_items_j144 (d : Nat) (l0 l1 l3 l4 s0 s1 : Int) (h : Hp) : Option ((Int × Int × Hp) ⊕ (Int × Hp)) :=
  M_items_j146 d l0 l1 (w32 (s1 + s0)) l3 l4 h
def M_items_j93 (d : Nat) (l0 l1 l2 l3 l4 s0 s1 : Int) (h : Hp) : Option ((Int × Int × Hp) ⊕ (Int × Hp)) :=
  if s1 = s0 then
    if kK l0 = 11 then
    if kK (h l0 37) = 21 ∧ (0 : Int) ≤ l4 ∧ l4 < kL (h l0 37) then
    if kK (h l0 38) = 21 ∧ (0 : Int) ≤ l4 ∧ l4 < kL (h l0 38) then
    if kK (h l0 39) = 21 ∧ (0 : Int) ≤ l4 ∧ l4 < kL (h l0 39) then
    if kK (h l0 40) = 21 ∧ (0 : Int) ≤ l4 ∧ l4 < kL (h l0 40) then
    ob (M_waysOf (d - 1) l0 l1 l3 (h (h l0 37) l4) (h (h l0 38) l4) (h (h l0 39) l4) (h (h l0 40) l4) h) (fun r131 =>
      M_items_j144 d l0 l1 l3 l4 ((if r131.1 ≤ 0 then 0 else 1)) l2 r131.2)
    else none
    else none
    else none
    else none
    else none
  else
    M_items_j146 d l0 l1 l2 l3 l4 h
def M_items_L49 (d : Nat) (l0 l1 l3 : Int) (l2 l4 : Int) (h : Hp) : Option ((Int × Int × Hp) ⊕ (Int × Hp)) :=
  if 540 ≤ l4 then
    some (.inr (l2, h))
  else
    if kK l0 = 11 then
    if kK (h l0 38) = 21 ∧ (0 : Int) ≤ l4 ∧ l4 < kL (h l0 38) then
    if h l0 32 < h (h l0 38) l4 then
      M_items_j146 d l0 l1 l2 l3 l4 h
    else
      if kK (h l0 14) = 23 ∧ (0 : Int) ≤ l3 ∧ l3 < kL (h l0 14) then
      if kK (h l0 39) = 21 ∧ (0 : Int) ≤ l4 ∧ l4 < kL (h l0 39) then
      M_items_j93 d l0 l1 l2 l3 l4 ((if h (h l0 39) l4 = (-1) then 0 else 1)) (h (h l0 14) l3) h
      else none
      else none
    else none
    else none
def M_items_j152 (d : Nat) (l0 l1 l2 l3 : Int) (h : Hp) : Option ((Int × Int × Hp) ⊕ (Int × Hp)) :=
  some (.inl (l2, w32 (l3 + 1), h))
def M_items_L22 (d : Nat) (l0 l1 : Int) (l2 l3 : Int) (h : Hp) : Option ((Int × Int × Hp) ⊕ (Int × Hp)) :=
  if kK l0 = 11 then
  if h l0 2 ≤ l3 then
    some (.inr (l2, h))
  else
    if kK (h l0 15) = 21 ∧ (0 : Int) ≤ l3 ∧ l3 < kL (h l0 15) then
    ob (M_isOut l0 (h (h l0 15) l3) h) (fun r37 =>
      if r37 = 0 then
        ob (loopN (fun q => M_items_L49 d l0 l1 l3 q.1 q.2.1 q.2.2) LN (l2, 0, h)) (fun e152 =>
          M_items_j152 d l0 l1 e152.1 l3 e152.2)
      else
        M_items_j152 d l0 l1 l2 l3 h)
    else none
  else none
def M_items (d : Nat) (l0 l1 : Int) (h : Hp) : Option (Int × Hp) :=
  ob (M_in l1 0 1) (fun r4 =>
    if r4 = 0 then
      some ((-2), h)
    else
      if kK l0 = 11 then
      ob (M_looksAt l0 0 h) (fun r15 =>
        ob (loopN (fun q => M_items_L22 d l0 l1 q.1 q.2.1 q.2.2) LN (0, 0, r15)) (fun e158 =>
          some (e158.1, e158.2)))
      else none)
def M_treesOver_j78 (d : Nat) (l0 l1 l2 l3 l4 l5 l6 : Int) (h : Hp) : Option ((Int × Int × Hp) ⊕ (Int × Hp)) :=
  some (.inl (l5, w32 (l6 + 1), h))
def M_treesOver_j36 (d : Nat) (l0 l1 l2 l3 l4 l5 l6 s0 s1 : Int) (h : Hp) : Option ((Int × Int × Hp) ⊕ (Int × Hp)) :=
  if s1 = s0 then
    if kK l0 = 11 then
    ob (M_isOut l0 l6 h) (fun r42 =>
      if r42 = 0 then
        ob (M_root l0 l6 h) (fun r53 =>
          ob (M_waysOf (d - 1) l0 1 r53 l1 l2 l3 l4 h) (fun r61 =>
            M_treesOver_j78 d l0 l1 l2 l3 l4 ((if r61.1 ≤ 0 then l5 else i_or l5 (i_shl 1 l6))) l6 r61.2))
      else
        M_treesOver_j78 d l0 l1 l2 l3 l4 l5 l6 h)
    else none
  else
    M_treesOver_j78 d l0 l1 l2 l3 l4 l5 l6 h
def M_treesOver_L11 (d : Nat) (l0 l1 l2 l3 l4 : Int) (l5 l6 : Int) (h : Hp) : Option ((Int × Int × Hp) ⊕ (Int × Hp)) :=
  if kK l0 = 11 then
  if h l0 1 ≤ l6 then
    some (.inr (l5, h))
  else
    ob (M_isGuest l0 l6 h) (fun r23 =>
      M_treesOver_j36 d l0 l1 l2 l3 l4 l5 l6 ((if l3 = (-1) then 0 else 1)) r23 h)
  else none
def M_treesOver (d : Nat) (l0 l1 l2 l3 l4 : Int) (h : Hp) : Option (Int × Hp) :=
  if kK l0 = 11 then
  ob (M_looksAt l0 0 h) (fun r2 =>
    ob (loopN (fun q => M_treesOver_L11 d l0 l1 l2 l3 l4 q.1 q.2.1 q.2.2) LN (0, 0, r2)) (fun e84 =>
      some (e84.1, e84.2)))
  else none
def M_spans (d : Nat) (l0 l1 l2 : Int) (h : Hp) : Option (Int × Hp) :=
  if kK l0 = 11 then
  ob (M_isSpan l0 l1 l2 h) (fun r3 =>
    if r3 = 0 then
      some ((-2), h)
    else
      ob (M_treesOver (d - 1) l0 l1 l2 ((-1)) ((-1)) h) (fun r14 =>
        some (r14.1, r14.2)))
  else none
def M_around (d : Nat) (l0 l1 l2 l3 l4 : Int) (h : Hp) : Option (Int × Hp) :=
  if kK l0 = 11 then
  ob (M_isGap l0 l1 l2 l3 l4 h) (fun r6 =>
    if r6 = 0 then
      some ((-2), h)
    else
      ob (M_treesOver (d - 1) l0 l1 l2 l3 l4 h) (fun r18 =>
        some (r18.1, r18.2)))
  else none
def M_waysOfAll_j48 (d : Nat) (l0 l1 l2 l4 : Int) (h : Hp) : Option ((Int × Int × Hp) ⊕ (Int × Hp)) :=
  some (.inl (l2, w32 (l4 + 1), h))
def M_waysOfAll_L5 (d : Nat) (l0 l1 : Int) (l2 l4 : Int) (h : Hp) : Option ((Int × Int × Hp) ⊕ (Int × Hp)) :=
  if kK l0 = 11 then
  if h l0 1 ≤ l4 then
    some (.inr (l2, h))
  else
    ob (M_start l0 h) (fun r18 =>
      ob (M_mayGo l0 l4 r18 0 h) (fun r22 =>
        if r22 = 0 then
          M_waysOfAll_j48 d l0 l1 l2 l4 h
        else
          ob (M_root l0 l4 h) (fun r34 =>
            ob (M_waysOf (d - 1) l0 1 r34 0 l1 ((-1)) ((-1)) h) (fun r41 =>
              ob (M_sum l2 r41.1) (fun r44 =>
                M_waysOfAll_j48 d l0 l1 r44 l4 r41.2)))))
  else none
def M_waysOfAll (d : Nat) (l0 l1 : Int) (h : Hp) : Option (Int × Hp) :=
  ob (loopN (fun q => M_waysOfAll_L5 d l0 l1 q.1 q.2.1 q.2.2) LN (0, 0, h)) (fun e54 =>
    some (e54.1, e54.2))
def M_reads (d : Nat) (l0 : Int) (h : Hp) : Option (Int × Hp) :=
  if kK l0 = 11 then
  ob (M_looksAt l0 0 h) (fun r2 =>
    ob (M_waysOfAll (d - 1) l0 (r2 l0 34) r2) (fun r10 =>
      some ((if r10.1 ≤ 0 then 0 else 1), r10.2)))
  else none
def M_heads_j35 (d : Nat) (l0 l2 s0 s1 : Int) (h : Hp) : Option ((Int × Int × Hp) ⊕ (Int × Hp)) :=
  some (.inl (i_or s1 s0, w32 (l2 + 1), h))
def M_heads_L9 (d : Nat) (l0 : Int) (l1 l2 : Int) (h : Hp) : Option ((Int × Int × Hp) ⊕ (Int × Hp)) :=
  if kK l0 = 11 then
  if h l0 34 < l2 then
    some (.inr (l1, h))
  else
    ob (M_waysOfAll (d - 1) l0 l2 h) (fun r20 =>
      M_heads_j35 d l0 l2 ((if r20.1 ≤ 0 then 0 else i_shl 1 l2)) l1 r20.2)
  else none
def M_heads (d : Nat) (l0 : Int) (h : Hp) : Option (Int × Hp) :=
  if kK l0 = 11 then
  ob (M_looksAt l0 0 h) (fun r2 =>
    ob (loopN (fun q => M_heads_L9 d l0 q.1 q.2.1 q.2.2) LN (0, 0, r2)) (fun e43 =>
      some (e43.1, e43.2)))
  else none
def M_ways (d : Nat) (l0 : Int) (h : Hp) : Option (Int × Hp) :=
  if kK l0 = 11 then
  ob (M_looksAt l0 0 h) (fun r2 =>
    ob (M_waysOfAll (d - 1) l0 (r2 l0 34) r2) (fun r10 =>
      ob (M_toldAs r10.1) (fun r13 =>
        some (r13, r10.2))))
  else none
def M_without (d : Nat) (l0 l1 : Int) (h : Hp) : Option (Int × Hp) :=
  if kK l0 = 11 then
  ob (M_isTree l0 l1 h) (fun r2 =>
    if r2 = 0 then
      some ((-2), h)
    else
      ob (M_looksAt l0 (i_shl 1 l1) h) (fun r16 =>
        ob (M_waysOfAll (d - 1) l0 (r16 l0 34) r16) (fun r24 =>
          ob (M_toldAs r24.1) (fun r27 =>
            some (r27, r24.2)))))
  else none
def M_lengths_j90 (d : Nat) (l0 l1 l2 l3 : Int) (h : Hp) : Option ((Int × Int × Hp) ⊕ (Int × Hp)) :=
  some (.inl (l2, w32 (l3 + 1), h))
def M_lengths_j86 (d : Nat) (l0 l1 l3 s0 s1 s2 s3 : Int) (h : Hp) : Option ((Int × Int × Hp) ⊕ (Int × Hp)) :=
  if kK s3 = 11 then
  ob (M_best s3 s2 s1 s0) (fun r86 =>
    M_lengths_j90 d l0 l1 r86 l3 h)
  else none
def M_lengths_j69 (d : Nat) (l0 l1 l3 s0 s1 s2 s3 s4 s5 s6 s7 s8 s9 : Int) (h : Hp) : Option ((Int × Int × Hp) ⊕ (Int × Hp)) :=
  if kK s7 = 11 then
  ob (M_stepsIn (d - 1) s7 s6 s5 s4 s3 s2 s1 s0 h) (fun r69 =>
    ob (M_both r69.1 1) (fun r73 =>
      M_lengths_j86 d l0 l1 l3 ((if l1 = 1 then 1 else 0)) r73 s8 s9 r69.2))
  else none
def M_lengths_L22 (d : Nat) (l0 l1 : Int) (l2 l3 : Int) (h : Hp) : Option ((Int × Int × Hp) ⊕ (Int × Hp)) :=
  if kK l0 = 11 then
  if h l0 1 ≤ l3 then
    some (.inr (l2, h))
  else
    ob (M_start l0 h) (fun r33 =>
      ob (M_mayGo l0 l3 r33 0 h) (fun r37 =>
        if r37 = 0 then
          M_lengths_j90 d l0 l1 l2 l3 h
        else
          ob (M_root l0 l3 h) (fun r49 =>
            M_lengths_j69 d l0 l1 l3 ((if l1 = 1 then 1 else 0)) ((-1)) ((-1)) (h l0 34) 0 r49 1 l0 l2 l0 h)))
  else none
def M_lengths (d : Nat) (l0 l1 : Int) (h : Hp) : Option (Int × Hp) :=
  ob (M_in l1 0 1) (fun r4 =>
    if r4 = 0 then
      some ((-2), h)
    else
      if kK l0 = 11 then
      ob (M_looksAt l0 0 h) (fun r15 =>
        ob (loopN (fun q => M_lengths_L22 d l0 l1 q.1 q.2.1 q.2.2) LN ((-1), 0, r15)) (fun e96 =>
          some (e96.1, e96.2)))
      else none)
def M_meets_j85 (R : Nat → List Int → Hp → Option (Hp)) (d : Nat) (l0 l2 l3 l4 l5 l6 : Int) (h : Hp) : Option (Hp) :=
  if kK l0 = 11 then
  ob (R 3 [l0, l2, l3, l4, l5, l6] h) (fun r94 =>
    some r94)
  else none
def M_meets_b (R : Nat → List Int → Hp → Option (Hp)) (d : Nat) (l0 l1 l2 l3 l4 l5 l6 : Int) (h : Hp) : Option (Hp) :=
  if kK l0 = 11 then
  ob (M_waysOf d l0 l1 l2 l3 l4 l5 l6 h) (fun r10 =>
    if r10.1 = 0 then
      some r10.2
    else
      ob (M_spanOf l0 l3 l4 l5 l6 r10.2) (fun r29 =>
        ob (M_keyOf l1 l2 r29) (fun r32 =>
          if kK (r10.2 l0 44) = 23 ∧ (0 : Int) ≤ r32 ∧ r32 < kL (r10.2 l0 44) then
          if r10.2 (r10.2 l0 44) r32 = 0 then
            let h_1 := hput r10.2 (r10.2 l0 44) r32 1
            if l1 = 1 then
              if kK (h_1 l0 5) = 21 ∧ (0 : Int) ≤ l2 ∧ l2 < kL (h_1 l0 5) then
              if h_1 (h_1 l0 5) l2 = 0 then
                ob (R 1 [l0, l2, l3, l4, l5, l6] h_1) (fun r79 =>
                  some r79)
              else
                M_meets_j85 R d l0 l2 l3 l4 l5 l6 h_1
              else none
            else
              M_meets_j85 R d l0 l2 l3 l4 l5 l6 h_1
          else
            some r10.2
          else none)))
  else none
def M_meetsAbove_j173 (R : Nat → List Int → Hp → Option (Hp)) (d : Nat) (l0 l1 l2 l3 l4 l5 l6 l7 l8 : Int) (h : Hp) : Option ((Int × Hp) ⊕ (Hp)) :=
  some (.inl (w32 (l8 + 1), h))
def M_meetsAbove_L98 (R : Nat → List Int → Hp → Option (Hp)) (d : Nat) (l0 l1 l2 l3 l4 l5 l6 l7 : Int) (l8 : Int) (h : Hp) : Option ((Int × Hp) ⊕ (Hp)) :=
  if l3 < l8 then
    some (.inr h)
  else
    if kK l0 = 11 then
    ob (M_waysAround d l0 l1 l6 l7 l8 l2 l3 l4 l5 h) (fun r118 =>
      if r118.1 = 0 then
        M_meetsAbove_j173 R d l0 l1 l2 l3 l4 l5 l6 l7 l8 r118.2
      else
        let h_1 := hput r118.2 l0 45 (i_or (r118.2 l0 45) (i_shl 1 l6))
        ob (M_root l0 l6 h_1) (fun r147 =>
          ob (R 0 [l0, 1, r147, l2, l3, l7, l8] h_1) (fun r156 =>
            ob (R 0 [l0, 0, l1, l7, l8, l4, l5] r156) (fun r170 =>
              M_meetsAbove_j173 R d l0 l1 l2 l3 l4 l5 l6 l7 l8 r170))))
    else none
def M_meetsAbove_j96 (R : Nat → List Int → Hp → Option (Hp)) (d : Nat) (l0 l1 l2 l3 l4 l5 l6 l7 s0 : Int) (h : Hp) : Option ((Int × Hp) ⊕ (Hp)) :=
  ob (loopN (fun q => M_meetsAbove_L98 R d l0 l1 l2 l3 l4 l5 l6 l7 q.1 q.2) LN (s0, h)) (fun e179 =>
    some (.inl (w32 (l7 + 1), e179)))
def M_meetsAbove_j80 (R : Nat → List Int → Hp → Option (Hp)) (d : Nat) (l0 l1 l2 l3 l4 l5 l6 l7 s0 s1 : Int) (h : Hp) : Option ((Int × Hp) ⊕ (Hp)) :=
  if s0 < s1 then
    some (.inr h)
  else
    M_meetsAbove_j96 R d l0 l1 l2 l3 l4 l5 l6 l7 ((if l4 = (-1) then l7 else l5)) h
def M_meetsAbove_L66 (R : Nat → List Int → Hp → Option (Hp)) (d : Nat) (l0 l1 l2 l3 l4 l5 l6 : Int) (l7 : Int) (h : Hp) : Option ((Int × Hp) ⊕ (Hp)) :=
  M_meetsAbove_j80 R d l0 l1 l2 l3 l4 l5 l6 l7 ((if l4 = (-1) then l3 else l4)) l7 h
def M_meetsAbove_j185 (R : Nat → List Int → Hp → Option (Hp)) (d : Nat) (l0 l1 l2 l3 l4 l5 l6 : Int) (h : Hp) : Option ((Int × Hp) ⊕ (Hp)) :=
  some (.inl (w32 (l6 + 1), h))
def M_meetsAbove_L25 (R : Nat → List Int → Hp → Option (Hp)) (d : Nat) (l0 l1 l2 l3 l4 l5 : Int) (l6 : Int) (h : Hp) : Option ((Int × Hp) ⊕ (Hp)) :=
  if kK l0 = 11 then
  if h l0 1 ≤ l6 then
    some (.inr h)
  else
    if kK (h l0 7) = 21 ∧ (0 : Int) ≤ l1 ∧ l1 < kL (h l0 7) then
    if h (h l0 7) l1 = 1 then
      some (.inr h)
    else
      if kK (h l0 6) = 21 ∧ (0 : Int) ≤ l1 ∧ l1 < kL (h l0 6) then
      ob (M_mayGo l0 l6 (h (h l0 6) l1) 1 h) (fun r54 =>
        if r54 = 0 then
          M_meetsAbove_j185 R d l0 l1 l2 l3 l4 l5 l6 h
        else
          ob (loopN (fun q => M_meetsAbove_L66 R d l0 l1 l2 l3 l4 l5 l6 q.1 q.2) LN (l2, h)) (fun e185 =>
            M_meetsAbove_j185 R d l0 l1 l2 l3 l4 l5 l6 e185))
      else none
    else none
  else none
def M_meetsAbove_j22 (R : Nat → List Int → Hp → Option (Hp)) (d : Nat) (l0 l1 l2 l3 l4 l5 : Int) (h : Hp) : Option (Hp) :=
  ob (loopN (fun q => M_meetsAbove_L25 R d l0 l1 l2 l3 l4 l5 q.1 q.2) LN (0, h)) (fun e191 =>
    some e191)
def M_meetsAbove_b (R : Nat → List Int → Hp → Option (Hp)) (d : Nat) (l0 l1 l2 l3 l4 l5 : Int) (h : Hp) : Option (Hp) :=
  if kK l0 = 11 then
  if kK (h l0 7) = 21 ∧ (0 : Int) ≤ l1 ∧ l1 < kL (h l0 7) then
  if h (h l0 7) l1 = 2 then
    M_meetsAbove_j22 R d l0 l1 l2 l3 l4 l5 h
  else
    ob (R 0 [l0, 0, l1, l2, l3, l4, l5] h) (fun r19 =>
      M_meetsAbove_j22 R d l0 l1 l2 l3 l4 l5 r19)
  else none
  else none
def M_meetsHost_b (R : Nat → List Int → Hp → Option (Hp)) (d : Nat) (l0 l1 l2 l3 : Int) (h : Hp) : Option (Hp) :=
  if kK l0 = 11 then
  ob (M_root l0 l1 h) (fun r4 =>
    ob (M_waysOf d l0 1 r4 l2 l3 ((-1)) ((-1)) h) (fun r11 =>
      if r11.1 = 0 then
        some r11.2
      else
        let h_1 := hput r11.2 l0 45 (i_or (r11.2 l0 45) (i_shl 1 l1))
        ob (M_root l0 l1 h_1) (fun r36 =>
          ob (R 0 [l0, 1, r36, l2, l3, (-1), (-1)] h_1) (fun r43 =>
            some r43))))
  else none
def M_meetsBelow_j219 (R : Nat → List Int → Hp → Option (Hp)) (d : Nat) (l0 l1 l2 l3 l4 l5 l6 l7 l8 : Int) (h : Hp) : Option ((Int × Hp) ⊕ (Hp)) :=
  some (.inl (w32 (l8 + 1), h))
def M_meetsBelow_j216 (R : Nat → List Int → Hp → Option (Hp)) (d : Nat) (l0 l1 l2 l3 l4 l5 l6 l7 l8 s0 s1 s2 s3 s4 s5 s6 : Int) (h : Hp) : Option ((Int × Hp) ⊕ (Hp)) :=
  if kK s6 = 11 then
  ob (R 0 [s6, s5, s4, s3, s2, s1, s0] h) (fun r216 =>
    M_meetsBelow_j219 R d l0 l1 l2 l3 l4 l5 l6 l7 l8 r216)
  else none
def M_meetsBelow_j205 (R : Nat → List Int → Hp → Option (Hp)) (d : Nat) (l0 l1 l2 l3 l4 l5 l6 l7 l8 s0 s1 s2 s3 s4 s5 : Int) (h : Hp) : Option ((Int × Hp) ⊕ (Hp)) :=
  M_meetsBelow_j216 R d l0 l1 l2 l3 l4 l5 l6 l7 l8 ((if l7 = 0 then (-1) else l5)) s0 s1 s2 s3 s4 s5 h
def M_meetsBelow_j180 (R : Nat → List Int → Hp → Option (Hp)) (d : Nat) (l0 l1 l2 l3 l4 l5 l6 l7 l8 s0 s1 s2 s3 s4 s5 s6 : Int) (h : Hp) : Option ((Int × Hp) ⊕ (Hp)) :=
  if kK s6 = 11 then
  ob (R 0 [s6, s5, s4, s3, s2, s1, s0] h) (fun r180 =>
    if kK l0 = 11 then
    if kK (r180 l0 9) = 21 ∧ (0 : Int) ≤ l1 ∧ l1 < kL (r180 l0 9) then
    M_meetsBelow_j205 R d l0 l1 l2 l3 l4 l5 l6 l7 l8 ((if l7 = 0 then (-1) else l4)) l3 l8 (r180 (r180 l0 9) l1) 1 l0 r180
    else none
    else none)
  else none
def M_meetsBelow_j169 (R : Nat → List Int → Hp → Option (Hp)) (d : Nat) (l0 l1 l2 l3 l4 l5 l6 l7 l8 s0 s1 s2 s3 s4 s5 : Int) (h : Hp) : Option ((Int × Hp) ⊕ (Hp)) :=
  M_meetsBelow_j180 R d l0 l1 l2 l3 l4 l5 l6 l7 l8 ((if l6 = 0 then (-1) else l5)) s0 s1 s2 s3 s4 s5 h
def M_meetsBelow_L120 (R : Nat → List Int → Hp → Option (Hp)) (d : Nat) (l0 l1 l2 l3 l4 l5 l6 l7 : Int) (l8 : Int) (h : Hp) : Option ((Int × Hp) ⊕ (Hp)) :=
  if l3 < l8 then
    some (.inr h)
  else
    if kK l0 = 11 then
    ob (M_waysSplit d l0 l1 l2 l8 l3 l4 l5 h) (fun r136 =>
      if r136.1 = 0 then
        M_meetsBelow_j219 R d l0 l1 l2 l3 l4 l5 l6 l7 l8 r136.2
      else
        if kK (r136.2 l0 8) = 21 ∧ (0 : Int) ≤ l1 ∧ l1 < kL (r136.2 l0 8) then
        M_meetsBelow_j169 R d l0 l1 l2 l3 l4 l5 l6 l7 l8 ((if l6 = 0 then (-1) else l4)) l8 l2 (r136.2 (r136.2 l0 8) l1) 1 l0 r136.2
        else none)
    else none
def M_meetsBelow_j46 (R : Nat → List Int → Hp → Option (Hp)) (d : Nat) (l0 l1 l2 l3 l6 : Int) (h : Hp) : Option ((Int × Hp) ⊕ (Hp)) :=
  some (.inl (w32 (l6 + 1), h))
def M_meetsBelow_L13 (R : Nat → List Int → Hp → Option (Hp)) (d : Nat) (l0 l1 l2 l3 : Int) (l6 : Int) (h : Hp) : Option ((Int × Hp) ⊕ (Hp)) :=
  if kK l0 = 11 then
  if h l0 1 ≤ l6 then
    some (.inr h)
  else
    if kK (h l0 6) = 21 ∧ (0 : Int) ≤ l1 ∧ l1 < kL (h l0 6) then
    ob (M_mayGo l0 l6 (h (h l0 6) l1) 0 h) (fun r32 =>
      if r32 = 0 then
        M_meetsBelow_j46 R d l0 l1 l2 l3 l6 h
      else
        ob (R 2 [l0, l6, l2, l3] h) (fun r43 =>
          M_meetsBelow_j46 R d l0 l1 l2 l3 l6 r43))
    else none
  else none
def M_meetsBelow_b (R : Nat → List Int → Hp → Option (Hp)) (d : Nat) (l0 l1 l2 l3 l4 l5 : Int) (h : Hp) : Option (Hp) :=
  if kK l0 = 11 then
  if kK (h l0 5) = 21 ∧ (0 : Int) ≤ l1 ∧ l1 < kL (h l0 5) then
  if h (h l0 5) l1 = 4 then
    ob (loopN (fun q => M_meetsBelow_L13 R d l0 l1 l2 l3 q.1 q.2) LN (0, h)) (fun e52 =>
      some e52)
  else
    if h (h l0 5) l1 = 0 then
      if kK (h l0 9) = 21 ∧ (0 : Int) ≤ l1 ∧ l1 < kL (h l0 9) then
      if h (h l0 9) l1 = (-1) then
        if kK (h l0 8) = 21 ∧ (0 : Int) ≤ l1 ∧ l1 < kL (h l0 8) then
        ob (R 0 [l0, 1, h (h l0 8) l1, l2, l3, l4, l5] h) (fun r87 =>
          some r87)
        else none
      else
        if kK (h l0 8) = 21 ∧ (0 : Int) ≤ l1 ∧ l1 < kL (h l0 8) then
        if kK (h l0 14) = 23 ∧ (0 : Int) ≤ h (h l0 8) l1 ∧ h (h l0 8) l1 < kL (h l0 14) then
        if kK (h l0 14) = 23 ∧ (0 : Int) ≤ h (h l0 9) l1 ∧ h (h l0 9) l1 < kL (h l0 14) then
        ob (loopN (fun q => M_meetsBelow_L120 R d l0 l1 l2 l3 l4 l5 (h (h l0 14) (h (h l0 8) l1)) (h (h l0 14) (h (h l0 9) l1)) q.1 q.2) LN (l2, h)) (fun e225 =>
          some e225)
        else none
        else none
        else none
      else none
    else
      some h
  else none
  else none
def M_meets_G : Nat → Nat → List Int → Hp → Option (Hp)
  | 0, _, _, _ => none
  | d + 1, k, as, h => if 1 ≤ d then (match k, as with
    | 0, [l0, l1, l2, l3, l4, l5, l6] => M_meets_b (M_meets_G d) d l0 l1 l2 l3 l4 l5 l6 h
    | 1, [l0, l1, l2, l3, l4, l5] => M_meetsAbove_b (M_meets_G d) d l0 l1 l2 l3 l4 l5 h
    | 2, [l0, l1, l2, l3] => M_meetsHost_b (M_meets_G d) d l0 l1 l2 l3 h
    | 3, [l0, l1, l2, l3, l4, l5] => M_meetsBelow_b (M_meets_G d) d l0 l1 l2 l3 l4 l5 h
    | _, _ => none) else none
def M_meets (d : Nat) (l0 l1 l2 l3 l4 l5 l6 : Int) (h : Hp) : Option (Hp) := M_meets_G d 0 [l0, l1, l2, l3, l4, l5, l6] h
def M_meetsAbove (d : Nat) (l0 l1 l2 l3 l4 l5 : Int) (h : Hp) : Option (Hp) := M_meets_G d 1 [l0, l1, l2, l3, l4, l5] h
def M_meetsHost (d : Nat) (l0 l1 l2 l3 : Int) (h : Hp) : Option (Hp) := M_meets_G d 2 [l0, l1, l2, l3] h
def M_meetsBelow (d : Nat) (l0 l1 l2 l3 l4 l5 : Int) (h : Hp) : Option (Hp) := M_meets_G d 3 [l0, l1, l2, l3, l4, l5] h
def M_used_j75 (d : Nat) (l0 l1 l2 l3 : Int) (h : Hp) : Option ((Int × Hp) ⊕ (Hp)) :=
  some (.inl (w32 (l3 + 1), h))
def M_used_L44 (d : Nat) (l0 l1 l2 : Int) (l3 : Int) (h : Hp) : Option ((Int × Hp) ⊕ (Hp)) :=
  if kK l0 = 11 then
  if h l0 1 ≤ l3 then
    some (.inr h)
  else
    ob (M_start l0 h) (fun r55 =>
      ob (M_mayGo l0 l3 r55 0 h) (fun r59 =>
        if r59 = 0 then
          M_used_j75 d l0 l1 l2 l3 h
        else
          ob (M_meetsHost (d - 1) l0 l3 0 (h l0 34) h) (fun r72 =>
            M_used_j75 d l0 l1 l2 l3 r72)))
  else none
def M_used_j89 (d : Nat) (l0 : Int) (h : Hp) : Option (Int × Hp) :=
  if kK l0 = 11 then
  some (h l0 45, h)
  else none
def M_used_j128 (d : Nat) (l0 l4 s0 s1 : Int) (h : Hp) : Option ((Int × Int × Hp) ⊕ (Int × Hp)) :=
  some (.inl (i_or s1 s0, w32 (l4 + 1), h))
def M_used_L99 (d : Nat) (l0 : Int) (l3 l4 : Int) (h : Hp) : Option ((Int × Int × Hp) ⊕ (Int × Hp)) :=
  if kK l0 = 11 then
  if h l0 1 ≤ l4 then
    some (.inr (l3, h))
  else
    ob (M_without (d - 1) l0 l4 h) (fun r112 =>
      M_used_j128 d l0 l4 ((if r112.1 = 0 then i_shl 1 l4 else 0)) l3 r112.2)
  else none
def M_used_j36 (d : Nat) (l0 l1 s0 : Int) (h : Hp) : Option (Int × Hp) :=
  if kK l0 = 11 then
  let h_1 := hput h l0 45 0
  ob (loopN (fun q => M_used_L44 d l0 l1 s0 q.1 q.2) LN (0, h_1)) (fun e81 =>
    if l1 = 0 then
      M_used_j89 d l0 e81
    else
      if s0 = 0 then
        M_used_j89 d l0 e81
      else
        ob (loopN (fun q => M_used_L99 d l0 q.1 q.2.1 q.2.2) LN (0, 0, e81)) (fun e136 =>
          some (e136.1, e136.2)))
  else none
def M_used (d : Nat) (l0 l1 : Int) (h : Hp) : Option (Int × Hp) :=
  ob (M_in l1 0 1) (fun r4 =>
    if r4 = 0 then
      some ((-2), h)
    else
      if kK l0 = 11 then
      ob (M_looksAt l0 0 h) (fun r15 =>
        ob (M_waysOfAll (d - 1) l0 (r15 l0 34) r15) (fun r23 =>
          M_used_j36 d l0 l1 ((if r23.1 ≤ 0 then 0 else 1)) r23.2))
      else none)
def M_readsRow (d : Nat) (l0 : Int) (h : Hp) : Option (Int × Hp) :=
  if kK l0 = 11 then
  ob (M_forgets l0 h) (fun r1 =>
    let h_1 := hput r1 l0 35 (r1 l0 3)
    ob (M_waysOfAll (d - 1) l0 (h_1 l0 34) h_1) (fun r17 =>
      some ((if r17.1 ≤ 0 then 0 else 1), r17.2)))
  else none
def M_mendsUpTo_j101 (d : Nat) (l0 l1 l2 l3 l4 l5 : Int) (h : Hp) : Option ((Int × Int × Hp) ⊕ ((Int × Hp) ⊕ (Int × Hp))) :=
  some (.inl (l2, w32 (l5 + 1), h))
def M_mendsUpTo_L22 (d : Nat) (l0 l1 l3 l4 : Int) (l2 l5 : Int) (h : Hp) : Option ((Int × Int × Hp) ⊕ ((Int × Hp) ⊕ (Int × Hp))) :=
  if 26 ≤ l5 then
    some (.inr (.inr ((l2, h))))
  else
    if i_and (i_shr l3 l5) 1 = 0 then
      M_mendsUpTo_j101 d l0 l1 l2 l3 l4 l5 h
    else
      if kK l0 = 11 then
      if kK (h l0 31) = 21 ∧ (0 : Int) ≤ l4 ∧ l4 < kL (h l0 31) then
      if l5 = h (h l0 31) l4 then
        M_mendsUpTo_j101 d l0 l1 l2 l3 l4 l5 h
      else
        ob (M_looksAt l0 0 h) (fun r55 =>
          if kK (r55 l0 33) = 21 ∧ (0 : Int) ≤ l4 ∧ l4 < kL (r55 l0 33) then
          let h_1 := hput r55 (r55 l0 33) l4 l5
          ob (M_readsRow (d - 1) l0 h_1) (fun r68 =>
            if r68.1 = 0 then
              M_mendsUpTo_j101 d l0 l1 l2 l3 l4 l5 r68.2
            else
              let h_2 := hput r68.2 l0 46 (w32 ((w32 (100 * l4)) + l5))
              if w32 ((w32 (l2 + 1)) - 1) = l1 then
                some (.inr (.inl ((w32 (l2 + 1), h_2))))
              else
                M_mendsUpTo_j101 d l0 l1 (w32 (l2 + 1)) l3 l4 l5 h_2)
          else none)
      else none
      else none
def M_mendsUpTo_L10 (d : Nat) (l0 l1 l3 : Int) (l2 l4 : Int) (h : Hp) : Option ((Int × Int × Hp) ⊕ ((Int × Hp) ⊕ (Int × Hp))) :=
  if kK l0 = 11 then
  if h l0 32 ≤ l4 then
    some (.inr (.inr ((l2, h))))
  else
    ob (loopN (fun q => M_mendsUpTo_L22 d l0 l1 l3 l4 q.1 q.2.1 q.2.2) LN (l2, 0, h)) (fun q22 =>
      match q22 with
      | .inl e99 =>
        some (.inr (.inl ((e99.1, e99.2))))
      | .inr e107 =>
        some (.inl (e107.1, w32 (l4 + 1), e107.2)))
  else none
def M_mendsUpTo (d : Nat) (l0 l1 : Int) (h : Hp) : Option (Int × Hp) :=
  if kK l0 = 11 then
  ob (M_lettersOfAll l0 h) (fun r3 =>
    ob (loopN (fun q => M_mendsUpTo_L10 d l0 l1 r3 q.1 q.2.1 q.2.2) LN (0, 0, h)) (fun q10 =>
      match q10 with
      | .inl e99 =>
        some (e99.1, e99.2)
      | .inr e113 =>
        some (e113.1, e113.2)))
  else none
def M_mends (d : Nat) (l0 : Int) (h : Hp) : Option (Int × Hp) :=
  if kK l0 = 11 then
  ob (M_mendsUpTo (d - 1) l0 ((-1)) h) (fun r2 =>
    some (r2.1, r2.2))
  else none
def M_mend (d : Nat) (l0 l1 : Int) (h : Hp) : Option (Int × Hp) :=
  if 0 ≤ l1 then
    if kK l0 = 11 then
    ob (M_mendsUpTo (d - 1) l0 l1 h) (fun r9 =>
      some ((if r9.1 ≤ l1 then (-1) else r9.2 l0 46), r9.2))
    else none
  else
    some ((-2), h)
def M_letterAt_L4 (l1 : Int) (l2 l3 : Int) : Option ((Int × Int) ⊕ (Int)) :=
  if l1 ≤ l3 then
    some (.inr l2)
  else
    some (.inl (i_and l2 (w32 (l2 - 1)), w32 (l3 + 1)))
def M_letterAt (l0 l1 : Int) : Option (Int) :=
  ob (loopN (fun q => M_letterAt_L4 l1 q.1 q.2) LN (l0, 0)) (fun e21 =>
    ob (JI_numberOfTrailingZeros e21) (fun r22 =>
      some r22))
def M_sentencesUpTo_L17 (d : Nat) (l0 l1 l2 l3 l4 : Int) (h : Hp) (l5 l6 : Int) : Option ((Int × Int) ⊕ (Int)) :=
  if l1 ≤ l6 then
    some (.inr l5)
  else
    some (.inl (w32 (l5 * l4), w32 (l6 + 1)))
def M_sentencesUpTo_L64 (d : Nat) (l0 l1 l2 l3 l4 l5 l6 l7 : Int) (l8 l9 l10 : Int) (h : Hp) : Option ((Int × Int × Int × Hp) ⊕ (Int × Hp)) :=
  if l1 ≤ l10 then
    some (.inr (l8, h))
  else
    if l4 ≠ 0 then
    if kK l0 = 11 then
    if w32 (Int.tdiv l9 l4) ≠ 0 then
    ob (M_letterAt l3 (w32 (Int.tmod (w32 (Int.tdiv l7 (w32 (Int.tdiv l9 l4)))) l4))) (fun r92 =>
      if kK (h l0 33) = 21 ∧ (0 : Int) ≤ l10 ∧ l10 < kL (h l0 33) then
      let h_2 := hput h (h l0 33) l10 r92
      if kK (h_2 l0 33) = 21 ∧ (0 : Int) ≤ l10 ∧ l10 < kL (h_2 l0 33) then
      some (.inl (w32 ((w32 ((w32 (27 * l8)) + (h_2 (h_2 l0 33) l10))) + 1), w32 (Int.tdiv l9 l4), w32 (l10 + 1), h_2))
      else none
      else none)
    else none
    else none
    else none
def M_sentencesUpTo_j149 (d : Nat) (l0 l1 l2 l3 l4 l5 l6 l7 : Int) (h : Hp) : Option ((Int × Int × Hp) ⊕ ((Int × Hp) ⊕ (Int × Hp))) :=
  some (.inl (l6, w32 (l7 + 1), h))
def M_sentencesUpTo_L42 (d : Nat) (l0 l1 l2 l3 l4 l5 : Int) (l6 l7 : Int) (h : Hp) : Option ((Int × Int × Hp) ⊕ ((Int × Hp) ⊕ (Int × Hp))) :=
  if l5 ≤ l7 then
    some (.inr (.inr ((l6, h))))
  else
    if kK l0 = 11 then
    let h_1 := hput h l0 34 l1
    ob (loopN (fun q => M_sentencesUpTo_L64 d l0 l1 l2 l3 l4 l5 l6 l7 q.1 q.2.1 q.2.2.1 q.2.2.2) LN (0, l5, 0, h_1)) (fun e119 =>
      ob (M_readsRow (d - 1) l0 e119.2) (fun r120 =>
        if r120.1 = 0 then
          M_sentencesUpTo_j149 d l0 l1 l2 l3 l4 l5 l6 l7 r120.2
        else
          let h_3 := hput r120.2 l0 47 e119.1
          if w32 ((w32 (l6 + 1)) - 1) = l2 then
            some (.inr (.inl ((w32 (l6 + 1), h_3))))
          else
            M_sentencesUpTo_j149 d l0 l1 l2 l3 l4 l5 (w32 (l6 + 1)) l7 h_3))
    else none
def M_sentencesUpTo (d : Nat) (l0 l1 l2 : Int) (h : Hp) : Option (Int × Hp) :=
  if kK l0 = 11 then
  ob (M_lettersOfAll l0 h) (fun r1 =>
    ob (JI_bitCount r1) (fun r6 =>
      ob (loopN (fun q => M_sentencesUpTo_L17 d l0 l1 l2 r1 r6 h q.1 q.2) LN (1, 0)) (fun e36 =>
        ob (loopN (fun q => M_sentencesUpTo_L42 d l0 l1 l2 r1 r6 e36 q.1 q.2.1 q.2.2) LN (0, 0, h)) (fun q42 =>
          match q42 with
          | .inl e146 =>
            some (e146.1, e146.2)
          | .inr e155 =>
            some (e155.1, e155.2)))))
  else none
def M_sentences (d : Nat) (l0 l1 : Int) (h : Hp) : Option (Int × Hp) :=
  ob (M_in l1 0 4) (fun r6 =>
    if r6 = 0 then
      some ((-2), h)
    else
      if kK l0 = 11 then
      ob (M_lettersOfAll l0 h) (fun r16 =>
        ob (JI_bitCount r16) (fun r19 =>
          if r19 ≤ 4 then
            ob (M_sentencesUpTo (d - 1) l0 l1 ((-1)) h) (fun r34 =>
              some (r34.1, r34.2))
          else
            some ((-5), h)))
      else none)
def M_sentence (d : Nat) (l0 l1 l2 : Int) (h : Hp) : Option (Int × Hp) :=
  ob (M_in l1 0 4) (fun r6 =>
    if r6 = 0 then
      some ((-2), h)
    else
      if 0 ≤ l2 then
        if kK l0 = 11 then
        ob (M_lettersOfAll l0 h) (fun r20 =>
          ob (JI_bitCount r20) (fun r23 =>
            if r23 ≤ 4 then
              ob (M_sentencesUpTo (d - 1) l0 l1 l2 h) (fun r36 =>
                some ((if r36.1 ≤ l2 then (-1) else r36.2 l0 47), r36.2))
            else
              some ((-5), h)))
        else none
      else
        some ((-2), h))
def M_newStep_L41 (l0 l2 l3 l4 : Int) (l5 : Int) (h : Hp) : Option ((Int × Hp) ⊕ (Hp)) :=
  if 12 ≤ l5 then
    some (.inr h)
  else
    if kK l0 = 11 then
    if kK (h l0 53) = 21 ∧ (0 : Int) ≤ w32 ((w32 (12 * l4)) + l5) ∧ w32 ((w32 (12 * l4)) + l5) < kL (h l0 53) then
    let h_5 := hput h (h l0 53) (w32 ((w32 (12 * l4)) + l5)) ((-1))
    some (.inl (w32 (l5 + 1), h_5))
    else none
    else none
def M_newStep_j86 (l0 l4 : Int) (h : Hp) : Option (Int × Hp) :=
  if kK l0 = 11 then
  let h_6 := hput h l0 48 (w32 ((h l0 48) + 1))
  some (l4, h_6)
  else none
def M_newStep (l0 l1 l2 l3 : Int) (h : Hp) : Option (Int × Hp) :=
  if kK l0 = 11 then
  if kK (h l0 49) = 21 ∧ (0 : Int) ≤ h l0 48 ∧ h l0 48 < kL (h l0 49) then
  let h_1 := hput h (h l0 49) (h l0 48) l1
  if kK (h_1 l0 50) = 21 ∧ (0 : Int) ≤ h l0 48 ∧ h l0 48 < kL (h_1 l0 50) then
  let h_2 := hput h_1 (h_1 l0 50) (h l0 48) l2
  if kK (h_2 l0 51) = 21 ∧ (0 : Int) ≤ h l0 48 ∧ h l0 48 < kL (h_2 l0 51) then
  let h_3 := hput h_2 (h_2 l0 51) (h l0 48) l3
  if kK (h_3 l0 52) = 21 ∧ (0 : Int) ≤ h l0 48 ∧ h l0 48 < kL (h_3 l0 52) then
  let h_4 := hput h_3 (h_3 l0 52) (h l0 48) ((-1))
  ob (loopN (fun q => M_newStep_L41 l0 l2 l3 (h l0 48) q.1 q.2) LN (0, h_4)) (fun e68 =>
    if l2 = (-1) then
      M_newStep_j86 l0 (h l0 48) e68
    else
      if kK (e68 l0 53) = 21 ∧ (0 : Int) ≤ w32 ((w32 (12 * l2)) + l3) ∧ w32 ((w32 (12 * l2)) + l3) < kL (e68 l0 53) then
      let h_7 := hput e68 (e68 l0 53) (w32 ((w32 (12 * l2)) + l3)) (h l0 48)
      M_newStep_j86 l0 (h l0 48) h_7
      else none)
  else none
  else none
  else none
  else none
  else none
def M_laysLetter (l0 l1 l2 l3 : Int) (h : Hp) : Option (Hp) :=
  if kK l0 = 11 then
  if kK (h l0 49) = 21 ∧ (0 : Int) ≤ l1 ∧ l1 < kL (h l0 49) then
  if kK (h l0 4) = 21 ∧ (0 : Int) ≤ h (h l0 49) l1 ∧ h (h l0 49) l1 < kL (h l0 4) then
  if kK (h l0 54) = 21 ∧ (0 : Int) ≤ l3 ∧ l3 < kL (h l0 54) then
  let h_1 := hput h (h l0 54) l3 l1
  if kK (h_1 l0 55) = 21 ∧ (0 : Int) ≤ l3 ∧ l3 < kL (h_1 l0 55) then
  let h_2 := hput h_1 (h_1 l0 55) l3 (w32 (l2 - (h (h l0 4) (h (h l0 49) l1))))
  if kK (h_2 l0 49) = 21 ∧ (0 : Int) ≤ l1 ∧ l1 < kL (h_2 l0 49) then
  if kK (h_2 l0 17) = 21 ∧ (0 : Int) ≤ h_2 (h_2 l0 49) l1 ∧ h_2 (h_2 l0 49) l1 < kL (h_2 l0 17) then
  if w32 (l2 - (h (h l0 4) (h (h l0 49) l1))) = h_2 (h_2 l0 17) (h_2 (h_2 l0 49) l1) then
    if kK (h_2 l0 52) = 21 ∧ (0 : Int) ≤ l1 ∧ l1 < kL (h_2 l0 52) then
    let h_3 := hput h_2 (h_2 l0 52) l1 l3
    some h_3
    else none
  else
    some h_2
  else none
  else none
  else none
  else none
  else none
  else none
  else none
def M_lays_j33 (R : Nat → List Int → Hp → Option (Hp)) (d : Nat) (l0 l1 l3 l4 l5 l6 l7 l8 : Int) (h : Hp) : Option (Hp) :=
  if kK l0 = 11 then
  ob (R 3 [l0, l1, l3, l4, l5, l6, l7, l8] h) (fun r46 =>
    some r46)
  else none
def M_lays_b (R : Nat → List Int → Hp → Option (Hp)) (d : Nat) (l0 l1 l2 l3 l4 l5 l6 l7 l8 : Int) (h : Hp) : Option (Hp) :=
  if l2 = 1 then
    if kK l0 = 11 then
    if kK (h l0 5) = 21 ∧ (0 : Int) ≤ l3 ∧ l3 < kL (h l0 5) then
    if h (h l0 5) l3 = 0 then
      ob (R 1 [l0, l1, l3, l4, l5, l6, l7, l8] h) (fun r27 =>
        some r27)
    else
      M_lays_j33 R d l0 l1 l3 l4 l5 l6 l7 l8 h
    else none
    else none
  else
    M_lays_j33 R d l0 l1 l3 l4 l5 l6 l7 l8 h
def M_laysAbove_L127 (R : Nat → List Int → Hp → Option (Hp)) (d : Nat) (l0 l1 l2 l3 l4 l5 l6 l11 l12 : Int) (l9 l13 : Int) (h : Hp) : Option ((Int × Int × Hp) ⊕ ((Int × Int × Hp) ⊕ (Int × Hp))) :=
  if l4 < l13 then
    some (.inr (.inr ((l9, h))))
  else
    if kK l0 = 11 then
    ob (M_waysAround d l0 l2 l11 l12 l13 l3 l4 l5 l6 h) (fun r149 =>
      if r149.1 ≤ l9 then
        some (.inl (w64 (l9 - r149.1), w32 (l13 + 1), r149.2))
      else
        some (.inr (.inl ((l9, l13, r149.2)))))
    else none
def M_laysAbove_j125 (R : Nat → List Int → Hp → Option (Hp)) (d : Nat) (l0 l1 l2 l3 l4 l5 l6 l9 l11 l12 s0 : Int) (h : Hp) : Option ((Int × Int × Hp) ⊕ ((Int × Int × Int × Hp) ⊕ (Int × Hp))) :=
  ob (loopN (fun q => M_laysAbove_L127 R d l0 l1 l2 l3 l4 l5 l6 l11 l12 q.1 q.2.1 q.2.2) LN (l9, s0, h)) (fun q127 =>
    match q127 with
    | .inl e162 =>
      some (.inr (.inl ((e162.1, l12, e162.2.1, e162.2.2))))
    | .inr e258 =>
      some (.inl (e258.1, w32 (l12 + 1), e258.2)))
def M_laysAbove_j109 (R : Nat → List Int → Hp → Option (Hp)) (d : Nat) (l0 l1 l2 l3 l4 l5 l6 l9 l11 l12 s0 s1 : Int) (h : Hp) : Option ((Int × Int × Hp) ⊕ ((Int × Int × Int × Hp) ⊕ (Int × Hp))) :=
  if s0 < s1 then
    some (.inr (.inr ((l9, h))))
  else
    M_laysAbove_j125 R d l0 l1 l2 l3 l4 l5 l6 l9 l11 l12 ((if l5 = (-1) then l12 else l6)) h
def M_laysAbove_L94 (R : Nat → List Int → Hp → Option (Hp)) (d : Nat) (l0 l1 l2 l3 l4 l5 l6 l11 : Int) (l9 l12 : Int) (h : Hp) : Option ((Int × Int × Hp) ⊕ ((Int × Int × Int × Hp) ⊕ (Int × Hp))) :=
  M_laysAbove_j109 R d l0 l1 l2 l3 l4 l5 l6 l9 l11 l12 ((if l5 = (-1) then l4 else l5)) l12 h
def M_laysAbove_j264 (R : Nat → List Int → Hp → Option (Hp)) (d : Nat) (l0 l1 l2 l3 l4 l5 l6 l9 l11 : Int) (h : Hp) : Option ((Int × Int × Hp) ⊕ ((Int × Int × Int × Int × Hp) ⊕ (Hp))) :=
  some (.inl (l9, w32 (l11 + 1), h))
def M_laysAbove_L63 (R : Nat → List Int → Hp → Option (Hp)) (d : Nat) (l0 l1 l2 l3 l4 l5 l6 : Int) (l9 l11 : Int) (h : Hp) : Option ((Int × Int × Hp) ⊕ ((Int × Int × Int × Int × Hp) ⊕ (Hp))) :=
  if kK l0 = 11 then
  if h l0 1 ≤ l11 then
    some (.inr (.inr (h)))
  else
    if kK (h l0 6) = 21 ∧ (0 : Int) ≤ l2 ∧ l2 < kL (h l0 6) then
    ob (M_mayGo l0 l11 (h (h l0 6) l2) 1 h) (fun r82 =>
      if r82 = 0 then
        M_laysAbove_j264 R d l0 l1 l2 l3 l4 l5 l6 l9 l11 h
      else
        ob (loopN (fun q => M_laysAbove_L94 R d l0 l1 l2 l3 l4 l5 l6 l11 q.1 q.2.1 q.2.2) LN (l9, l3, h)) (fun q94 =>
          match q94 with
          | .inl e162 =>
            some (.inr (.inl ((e162.1, l11, e162.2.1, e162.2.2.1, e162.2.2.2))))
          | .inr e264 =>
            M_laysAbove_j264 R d l0 l1 l2 l3 l4 l5 l6 e264.1 l11 e264.2))
    else none
  else none
def M_laysAbove_j60 (R : Nat → List Int → Hp → Option (Hp)) (d : Nat) (l0 l1 l2 l3 l4 l5 l6 l9 : Int) (h : Hp) : Option (Hp) :=
  ob (loopN (fun q => M_laysAbove_L63 R d l0 l1 l2 l3 l4 l5 l6 q.1 q.2.1 q.2.2) LN (l9, 0, h)) (fun q63 =>
    match q63 with
    | .inl e162 =>
      if kK l0 = 11 then
      ob (M_waysOf d l0 0 l2 e162.2.2.1 e162.2.2.2.1 l5 l6 e162.2.2.2.2) (fun r173 =>
        if kK (r173.2 l0 49) = 21 ∧ (0 : Int) ≤ l1 ∧ l1 < kL (r173.2 l0 49) then
        if kK (r173.2 l0 4) = 21 ∧ (0 : Int) ≤ r173.2 (r173.2 l0 49) l1 ∧ r173.2 (r173.2 l0 49) l1 < kL (r173.2 l0 4) then
        ob (M_newStep l0 e162.2.1 l1 (w32 (l2 - (r173.2 (r173.2 l0 4) (r173.2 (r173.2 l0 49) l1)))) r173.2) (fun r195 =>
          ob (M_root l0 e162.2.1 r195.2) (fun r207 =>
            if r173.1 ≠ 0 then
            ob (R 0 [l0, r195.1, 1, r207, l3, l4, e162.2.2.1, e162.2.2.2.1, w64 (Int.tdiv e162.1 r173.1)] r195.2) (fun r222 =>
              ob (R 3 [l0, l1, l2, e162.2.2.1, e162.2.2.2.1, l5, l6, w64 (Int.tmod e162.1 r173.1)] r222) (fun r241 =>
                some r241))
            else none))
        else none
        else none)
      else none
    | .inr e270 =>
      some e270)
def M_laysAbove_b (R : Nat → List Int → Hp → Option (Hp)) (d : Nat) (l0 l1 l2 l3 l4 l5 l6 l7 : Int) (h : Hp) : Option (Hp) :=
  if kK l0 = 11 then
  if kK (h l0 7) = 21 ∧ (0 : Int) ≤ l2 ∧ l2 < kL (h l0 7) then
  if h (h l0 7) l2 = 2 then
    M_laysAbove_j60 R d l0 l1 l2 l3 l4 l5 l6 l7 h
  else
    ob (M_waysOf d l0 0 l2 l3 l4 l5 l6 h) (fun r24 =>
      if r24.1 ≤ l7 then
        M_laysAbove_j60 R d l0 l1 l2 l3 l4 l5 l6 (w64 (l7 - r24.1)) r24.2
      else
        ob (R 3 [l0, l1, l2, l3, l4, l5, l6, l7] r24.2) (fun r49 =>
          some r49))
  else none
  else none
def M_laysHost_j111 (R : Nat → List Int → Hp → Option (Hp)) (d : Nat) (l0 l1 l2 l3 l4 l7 l9 : Int) (h : Hp) : Option ((Int × Int × Hp) ⊕ ((Int × Int × Hp) ⊕ (Hp))) :=
  some (.inl (l7, w32 (l9 + 1), h))
def M_laysHost_L7 (R : Nat → List Int → Hp → Option (Hp)) (d : Nat) (l0 l1 l2 l3 l4 : Int) (l7 l9 : Int) (h : Hp) : Option ((Int × Int × Hp) ⊕ ((Int × Int × Hp) ⊕ (Hp))) :=
  if kK l0 = 11 then
  if h l0 1 ≤ l9 then
    some (.inr (.inr (h)))
  else
    if kK (h l0 6) = 21 ∧ (0 : Int) ≤ l2 ∧ l2 < kL (h l0 6) then
    ob (M_mayGo l0 l9 (h (h l0 6) l2) 0 h) (fun r26 =>
      if r26 = 0 then
        M_laysHost_j111 R d l0 l1 l2 l3 l4 l7 l9 h
      else
        ob (M_root l0 l9 h) (fun r40 =>
          ob (M_waysOf d l0 1 r40 l3 l4 ((-1)) ((-1)) h) (fun r48 =>
            if r48.1 ≤ l7 then
              M_laysHost_j111 R d l0 l1 l2 l3 l4 (w64 (l7 - r48.1)) l9 r48.2
            else
              some (.inr (.inl ((l7, l9, r48.2)))))))
    else none
  else none
def M_laysHost_b (R : Nat → List Int → Hp → Option (Hp)) (d : Nat) (l0 l1 l2 l3 l4 l5 : Int) (h : Hp) : Option (Hp) :=
  ob (loopN (fun q => M_laysHost_L7 R d l0 l1 l2 l3 l4 q.1 q.2.1 q.2.2) LN (l5, 0, h)) (fun q7 =>
    match q7 with
    | .inl e61 =>
      if kK l0 = 11 then
      if kK (e61.2.2 l0 49) = 21 ∧ (0 : Int) ≤ l1 ∧ l1 < kL (e61.2.2 l0 49) then
      if kK (e61.2.2 l0 4) = 21 ∧ (0 : Int) ≤ e61.2.2 (e61.2.2 l0 49) l1 ∧ e61.2.2 (e61.2.2 l0 49) l1 < kL (e61.2.2 l0 4) then
      ob (M_newStep l0 e61.2.1 l1 (w32 (l2 - (e61.2.2 (e61.2.2 l0 4) (e61.2.2 (e61.2.2 l0 49) l1)))) e61.2.2) (fun r78 =>
        ob (M_root l0 e61.2.1 r78.2) (fun r90 =>
          ob (R 0 [l0, r78.1, 1, r90, l3, l4, (-1), (-1), e61.1] r78.2) (fun r100 =>
            some r100)))
      else none
      else none
      else none
    | .inr e117 =>
      some e117)
def M_laysBelow_L87 (R : Nat → List Int → Hp → Option (Hp)) (d : Nat) (l0 l1 l2 l3 l4 l5 l6 : Int) (l9 l11 : Int) (h : Hp) : Option ((Int × Int × Hp) ⊕ ((Int × Int × Hp) ⊕ (Hp))) :=
  if l4 < l11 then
    some (.inr (.inr (h)))
  else
    if kK l0 = 11 then
    ob (M_waysSplit d l0 l2 l3 l11 l4 l5 l6 h) (fun r105 =>
      if l9 < r105.1 then
        some (.inr (.inl ((l9, l11, r105.2))))
      else
        some (.inl (w64 (l9 - r105.1), w32 (l11 + 1), r105.2)))
    else none
def M_laysBelow_j246 (R : Nat → List Int → Hp → Option (Hp)) (d : Nat) (l9 l14 s0 s1 s2 s3 s4 s5 s6 s7 : Int) (h : Hp) : Option (Hp) :=
  if l14 ≠ 0 then
  if kK s7 = 11 then
  ob (R 0 [s7, s6, s5, s4, s3, s2, s1, s0, w64 (Int.tmod l9 l14)] h) (fun r251 =>
    some r251)
  else none
  else none
def M_laysBelow_j235 (R : Nat → List Int → Hp → Option (Hp)) (d : Nat) (l6 l9 l14 l17 s0 s1 s2 s3 s4 s5 s6 : Int) (h : Hp) : Option (Hp) :=
  M_laysBelow_j246 R d l9 l14 ((if l17 = 0 then (-1) else l6)) s0 s1 s2 s3 s4 s5 s6 h
def M_laysBelow_j203 (R : Nat → List Int → Hp → Option (Hp)) (d : Nat) (l0 l1 l2 l4 l5 l6 l9 l11 l14 l17 s0 s1 s2 s3 s4 s5 s6 s7 : Int) (h : Hp) : Option (Hp) :=
  if l14 ≠ 0 then
  if kK s7 = 11 then
  ob (R 0 [s7, s6, s5, s4, s3, s2, s1, s0, w64 (Int.tdiv l9 l14)] h) (fun r208 =>
    if kK l0 = 11 then
    if kK (r208 l0 9) = 21 ∧ (0 : Int) ≤ l2 ∧ l2 < kL (r208 l0 9) then
    M_laysBelow_j235 R d l6 l9 l14 l17 ((if l17 = 0 then (-1) else l5)) l4 l11 (r208 (r208 l0 9) l2) 1 l1 l0 r208
    else none
    else none)
  else none
  else none
def M_laysBelow_j192 (R : Nat → List Int → Hp → Option (Hp)) (d : Nat) (l0 l1 l2 l4 l5 l6 l9 l11 l14 l16 l17 s0 s1 s2 s3 s4 s5 s6 : Int) (h : Hp) : Option (Hp) :=
  M_laysBelow_j203 R d l0 l1 l2 l4 l5 l6 l9 l11 l14 l17 ((if l16 = 0 then (-1) else l6)) s0 s1 s2 s3 s4 s5 s6 h
def M_laysBelow_j38 (R : Nat → List Int → Hp → Option (Hp)) (d : Nat) (l0 l1 l2 l3 l4 l5 l6 l7 : Int) (h : Hp) : Option (Hp) :=
  if kK l0 = 11 then
  if kK (h l0 5) = 21 ∧ (0 : Int) ≤ l2 ∧ l2 < kL (h l0 5) then
  if h (h l0 5) l2 = 0 then
    if kK (h l0 9) = 21 ∧ (0 : Int) ≤ l2 ∧ l2 < kL (h l0 9) then
    if h (h l0 9) l2 = (-1) then
      if kK (h l0 8) = 21 ∧ (0 : Int) ≤ l2 ∧ l2 < kL (h l0 8) then
      ob (R 0 [l0, l1, 1, h (h l0 8) l2, l3, l4, l5, l6, l7] h) (fun r76 =>
        some r76)
      else none
    else
      ob (loopN (fun q => M_laysBelow_L87 R d l0 l1 l2 l3 l4 l5 l6 q.1 q.2.1 q.2.2) LN (l7, l3, h)) (fun q87 =>
        match q87 with
        | .inl e128 =>
          ob (M_waysSecond d l0 l2 e128.2.1 l4 l5 l6 e128.2.2) (fun r138 =>
            if kK (r138.2 l0 8) = 21 ∧ (0 : Int) ≤ l2 ∧ l2 < kL (r138.2 l0 8) then
            if kK (r138.2 l0 14) = 23 ∧ (0 : Int) ≤ r138.2 (r138.2 l0 8) l2 ∧ r138.2 (r138.2 l0 8) l2 < kL (r138.2 l0 14) then
            if kK (r138.2 l0 9) = 21 ∧ (0 : Int) ≤ l2 ∧ l2 < kL (r138.2 l0 9) then
            if kK (r138.2 l0 14) = 23 ∧ (0 : Int) ≤ r138.2 (r138.2 l0 9) l2 ∧ r138.2 (r138.2 l0 9) l2 < kL (r138.2 l0 14) then
            M_laysBelow_j192 R d l0 l1 l2 l4 l5 l6 e128.1 e128.2.1 r138.1 (r138.2 (r138.2 l0 14) (r138.2 (r138.2 l0 8) l2)) (r138.2 (r138.2 l0 14) (r138.2 (r138.2 l0 9) l2)) ((if r138.2 (r138.2 l0 14) (r138.2 (r138.2 l0 8) l2) = 0 then (-1) else l5)) e128.2.1 l3 (r138.2 (r138.2 l0 8) l2) 1 l1 l0 r138.2
            else none
            else none
            else none
            else none)
        | .inr e261 =>
          some e261)
    else none
  else
    some h
  else none
  else none
def M_laysBelow_j17 (R : Nat → List Int → Hp → Option (Hp)) (d : Nat) (l0 l1 l2 l3 l4 l5 l6 l7 : Int) (h : Hp) : Option (Hp) :=
  if kK l0 = 11 then
  if kK (h l0 5) = 21 ∧ (0 : Int) ≤ l2 ∧ l2 < kL (h l0 5) then
  if h (h l0 5) l2 = 4 then
    ob (R 2 [l0, l1, l2, l3, l4, l7] h) (fun r35 =>
      M_laysBelow_j38 R d l0 l1 l2 l3 l4 l5 l6 l7 r35)
  else
    M_laysBelow_j38 R d l0 l1 l2 l3 l4 l5 l6 l7 h
  else none
  else none
def M_laysBelow_b (R : Nat → List Int → Hp → Option (Hp)) (d : Nat) (l0 l1 l2 l3 l4 l5 l6 l7 : Int) (h : Hp) : Option (Hp) :=
  if kK l0 = 11 then
  if kK (h l0 5) = 21 ∧ (0 : Int) ≤ l2 ∧ l2 < kL (h l0 5) then
  if h (h l0 5) l2 = 1 then
    ob (M_laysLetter l0 l1 l2 l3 h) (fun r14 =>
      M_laysBelow_j17 R d l0 l1 l2 l3 l4 l5 l6 l7 r14)
  else
    M_laysBelow_j17 R d l0 l1 l2 l3 l4 l5 l6 l7 h
  else none
  else none
def M_lays_G : Nat → Nat → List Int → Hp → Option (Hp)
  | 0, _, _, _ => none
  | d + 1, k, as, h => if 1 ≤ d then (match k, as with
    | 0, [l0, l1, l2, l3, l4, l5, l6, l7, l8] => M_lays_b (M_lays_G d) d l0 l1 l2 l3 l4 l5 l6 l7 l8 h
    | 1, [l0, l1, l2, l3, l4, l5, l6, l7] => M_laysAbove_b (M_lays_G d) d l0 l1 l2 l3 l4 l5 l6 l7 h
    | 2, [l0, l1, l2, l3, l4, l5] => M_laysHost_b (M_lays_G d) d l0 l1 l2 l3 l4 l5 h
    | 3, [l0, l1, l2, l3, l4, l5, l6, l7] => M_laysBelow_b (M_lays_G d) d l0 l1 l2 l3 l4 l5 l6 l7 h
    | _, _ => none) else none
def M_lays (d : Nat) (l0 l1 l2 l3 l4 l5 l6 l7 l8 : Int) (h : Hp) : Option (Hp) := M_lays_G d 0 [l0, l1, l2, l3, l4, l5, l6, l7, l8] h
def M_laysAbove (d : Nat) (l0 l1 l2 l3 l4 l5 l6 l7 : Int) (h : Hp) : Option (Hp) := M_lays_G d 1 [l0, l1, l2, l3, l4, l5, l6, l7] h
def M_laysHost (d : Nat) (l0 l1 l2 l3 l4 l5 : Int) (h : Hp) : Option (Hp) := M_lays_G d 2 [l0, l1, l2, l3, l4, l5] h
def M_laysBelow (d : Nat) (l0 l1 l2 l3 l4 l5 l6 l7 : Int) (h : Hp) : Option (Hp) := M_lays_G d 3 [l0, l1, l2, l3, l4, l5, l6, l7] h
def M_laysWay_j98 (d : Nat) (l0 l5 l7 s0 : Int) (h : Hp) : Option ((Int × Int × Hp) ⊕ ((Int × Int × Hp) ⊕ (Hp))) :=
  if s0 ≤ l5 then
    some (.inl (w64 (l5 - s0), w32 (l7 + 1), h))
  else
    some (.inr (.inl ((l5, l7, h))))
def M_laysWay_L53 (d : Nat) (l0 : Int) (l5 l7 : Int) (h : Hp) : Option ((Int × Int × Hp) ⊕ ((Int × Int × Hp) ⊕ (Hp))) :=
  if kK l0 = 11 then
  if h l0 1 ≤ l7 then
    some (.inr (.inr (h)))
  else
    ob (M_start l0 h) (fun r66 =>
      ob (M_mayGo l0 l7 r66 0 h) (fun r70 =>
        if r70 = 0 then
          M_laysWay_j98 d l0 l5 l7 0 h
        else
          ob (M_root l0 l7 h) (fun r81 =>
            ob (M_waysOf (d - 1) l0 1 r81 0 (h l0 34) ((-1)) ((-1)) h) (fun r91 =>
              M_laysWay_j98 d l0 l5 l7 r91.1 r91.2))))
  else none
def M_laysWay (d : Nat) (l0 l1 : Int) (h : Hp) : Option (Int × Hp) :=
  if 0 ≤ l1 then
    if kK l0 = 11 then
    ob (M_looksAt l0 0 h) (fun r11 =>
      ob (M_waysOfAll (d - 1) l0 (r11 l0 34) r11) (fun r19 =>
        if r19.1 ≤ 1000000000000000 then
          if l1 < r19.1 then
            let h_1 := hput r19.2 l0 48 0
            ob (loopN (fun q => M_laysWay_L53 d l0 q.1 q.2.1 q.2.2) LN (l1, 0, h_1)) (fun q53 =>
              match q53 with
              | .inl e108 =>
                ob (M_newStep l0 e108.2.1 ((-1)) ((-1)) e108.2.2) (fun r114 =>
                  ob (M_root l0 e108.2.1 r114.2) (fun r121 =>
                    ob (M_lays (d - 1) l0 r114.1 1 r121 0 (r114.2 l0 34) ((-1)) ((-1)) e108.1 r114.2) (fun r133 =>
                      some (0, r133))))
              | .inr e151 =>
                some ((-1), e151))
          else
            some ((-1), r19.2)
        else
          some ((-3), r19.2)))
    else none
  else
    some ((-2), h)
def M_steps (d : Nat) (l0 l1 : Int) (h : Hp) : Option (Int × Hp) :=
  if kK l0 = 11 then
  ob (M_laysWay (d - 1) l0 l1 h) (fun r2 =>
    some ((if r2.1 = 0 then r2.2 l0 48 else r2.1), r2.2))
  else none
def M_step (d : Nat) (l0 l1 l3 l4 : Int) (h : Hp) : Option (Int × Hp) :=
  if kK l0 = 11 then
  ob (M_laysWay (d - 1) l0 l1 h) (fun r2 =>
    if r2.1 = 0 then
      ob (M_in l3 0 (w32 ((r2.2 l0 48) - 1))) (fun r25 =>
        if r25 = 0 then
          some ((-2), r2.2)
        else
          if l4 = 0 then
            if kK (r2.2 l0 49) = 21 ∧ (0 : Int) ≤ l3 ∧ l3 < kL (r2.2 l0 49) then
            some (r2.2 (r2.2 l0 49) l3, r2.2)
            else none
          else
            if l4 = 1 then
              if kK (r2.2 l0 50) = 21 ∧ (0 : Int) ≤ l3 ∧ l3 < kL (r2.2 l0 50) then
              some (r2.2 (r2.2 l0 50) l3, r2.2)
              else none
            else
              if l4 = 2 then
                if kK (r2.2 l0 51) = 21 ∧ (0 : Int) ≤ l3 ∧ l3 < kL (r2.2 l0 51) then
                some (r2.2 (r2.2 l0 51) l3, r2.2)
                else none
              else
                if l4 = 3 then
                  if kK (r2.2 l0 52) = 21 ∧ (0 : Int) ≤ l3 ∧ l3 < kL (r2.2 l0 52) then
                  some (r2.2 (r2.2 l0 52) l3, r2.2)
                  else none
                else
                  some ((-2), r2.2))
    else
      some (r2.1, r2.2))
  else none
def M_whose (d : Nat) (l0 l1 l3 l4 : Int) (h : Hp) : Option (Int × Hp) :=
  if kK l0 = 11 then
  ob (M_laysWay (d - 1) l0 l1 h) (fun r2 =>
    if r2.1 = 0 then
      ob (M_in l3 0 (w32 ((r2.2 l0 32) - 1))) (fun r25 =>
        if r25 = 0 then
          some ((-2), r2.2)
        else
          ob (M_in l4 0 1) (fun r36 =>
            if r36 = 0 then
              some ((-2), r2.2)
            else
              if l4 = 0 then
                if kK (r2.2 l0 54) = 21 ∧ (0 : Int) ≤ l3 ∧ l3 < kL (r2.2 l0 54) then
                some (r2.2 (r2.2 l0 54) l3, r2.2)
                else none
              else
                if kK (r2.2 l0 55) = 21 ∧ (0 : Int) ≤ l3 ∧ l3 < kL (r2.2 l0 55) then
                some (r2.2 (r2.2 l0 55) l3, r2.2)
                else none))
    else
      some (r2.1, r2.2))
  else none
def M_isArc_j39 (h : Hp) : Option (Int) :=
  some 0
def M_isArc (l0 l1 : Int) (h : Hp) : Option (Int) :=
  if kK l0 = 11 then
  if kK (h l0 50) = 21 ∧ (0 : Int) ≤ l1 ∧ l1 < kL (h l0 50) then
  if h (h l0 50) l1 = (-1) then
    M_isArc_j39 h
  else
    if kK (h l0 52) = 21 ∧ (0 : Int) ≤ l1 ∧ l1 < kL (h l0 52) then
    if h (h l0 52) l1 = (-1) then
      M_isArc_j39 h
    else
      if kK (h l0 52) = 21 ∧ (0 : Int) ≤ h (h l0 50) l1 ∧ h (h l0 50) l1 < kL (h l0 52) then
      if h (h l0 52) (h (h l0 50) l1) = (-1) then
        M_isArc_j39 h
      else
        some 1
      else none
    else none
  else none
  else none
def M_lowOf (l0 l1 : Int) (h : Hp) : Option (Int) :=
  if kK l0 = 11 then
  if kK (h l0 52) = 21 ∧ (0 : Int) ≤ l1 ∧ l1 < kL (h l0 52) then
  if kK (h l0 50) = 21 ∧ (0 : Int) ≤ l1 ∧ l1 < kL (h l0 50) then
  if kK (h l0 52) = 21 ∧ (0 : Int) ≤ h (h l0 50) l1 ∧ h (h l0 50) l1 < kL (h l0 52) then
  some (min (h (h l0 52) l1) (h (h l0 52) (h (h l0 50) l1)))
  else none
  else none
  else none
  else none
def M_highOf (l0 l1 : Int) (h : Hp) : Option (Int) :=
  if kK l0 = 11 then
  if kK (h l0 52) = 21 ∧ (0 : Int) ≤ l1 ∧ l1 < kL (h l0 52) then
  if kK (h l0 50) = 21 ∧ (0 : Int) ≤ l1 ∧ l1 < kL (h l0 50) then
  if kK (h l0 52) = 21 ∧ (0 : Int) ≤ h (h l0 50) l1 ∧ h (h l0 50) l1 < kL (h l0 52) then
  some (max (h (h l0 52) l1) (h (h l0 52) (h (h l0 50) l1)))
  else none
  else none
  else none
  else none
def M_isBetween_j22 (h : Hp) : Option (Int) :=
  some 0
def M_isBetween (l0 l1 l2 : Int) (h : Hp) : Option (Int) :=
  if kK l0 = 11 then
  ob (M_lowOf l0 l2 h) (fun r3 =>
    if l1 ≤ r3 then
      M_isBetween_j22 h
    else
      ob (M_highOf l0 l2 h) (fun r12 =>
        if r12 ≤ l1 then
          M_isBetween_j22 h
        else
          some 1))
  else none
def M_doCross (l0 l1 l2 : Int) (h : Hp) : Option (Int) :=
  if kK l0 = 11 then
  ob (M_lowOf l0 l1 h) (fun r2 =>
    ob (M_lowOf l0 l2 h) (fun r7 =>
      if r2 = r7 then
        some 0
      else
        ob (M_lowOf l0 l1 h) (fun r15 =>
          ob (M_highOf l0 l2 h) (fun r20 =>
            if r15 = r20 then
              some 0
            else
              ob (M_highOf l0 l1 h) (fun r28 =>
                ob (M_lowOf l0 l2 h) (fun r33 =>
                  if r28 = r33 then
                    some 0
                  else
                    ob (M_highOf l0 l1 h) (fun r41 =>
                      ob (M_highOf l0 l2 h) (fun r46 =>
                        if r41 = r46 then
                          some 0
                        else
                          ob (M_lowOf l0 l1 h) (fun r57 =>
                            ob (M_isBetween l0 r57 l2 h) (fun r61 =>
                              ob (M_highOf l0 l1 h) (fun r67 =>
                                ob (M_isBetween l0 r67 l2 h) (fun r71 =>
                                  some ((if r61 = r71 then 0 else 1))))))))))))))
  else none
def M_arcs_j123 (d : Nat) (l0 l3 l5 l7 l8 l9 s0 s1 : Int) (h : Hp) : Option ((Int × Int) ⊕ (Int)) :=
  some (.inl (w32 (s1 + s0), w32 (l9 + 1)))
def M_arcs_j122 (d : Nat) (l0 l3 l5 l7 l8 l9 s0 : Int) (h : Hp) : Option ((Int × Int) ⊕ (Int)) :=
  M_arcs_j123 d l0 l3 l5 l7 l8 l9 0 s0 h
def M_arcs_L89 (d : Nat) (l0 l3 l5 l7 l8 : Int) (h : Hp) (l6 l9 : Int) : Option ((Int × Int) ⊕ (Int)) :=
  if l8 ≤ l9 then
    some (.inr l6)
  else
    if kK l0 = 11 then
    ob (M_isArc l0 l9 h) (fun r101 =>
      if r101 = 0 then
        M_arcs_j122 d l0 l3 l5 l7 l8 l9 l6 h
      else
        ob (M_doCross l0 l8 l9 h) (fun r112 =>
          if r112 = 0 then
            M_arcs_j122 d l0 l3 l5 l7 l8 l9 l6 h
          else
            M_arcs_j123 d l0 l3 l5 l7 l8 l9 1 l6 h))
    else none
def M_arcs_j132 (d : Nat) (l0 l3 l5 l6 l7 l8 : Int) (h : Hp) : Option ((Int × Int × Int × Int) ⊕ (Int × Int × Int)) :=
  some (.inl (l5, l6, l7, w32 (l8 + 1)))
def M_arcs_L42 (d : Nat) (l0 l3 : Int) (h : Hp) (l5 l6 l7 l8 : Int) : Option ((Int × Int × Int × Int) ⊕ (Int × Int × Int)) :=
  if kK l0 = 11 then
  if h l0 48 ≤ l8 then
    some (.inr (l5, l6, l7))
  else
    ob (M_isArc l0 l8 h) (fun r54 =>
      if r54 = 0 then
        M_arcs_j132 d l0 l3 l5 l6 l7 l8 h
      else
        ob (M_highOf l0 l8 h) (fun r71 =>
          ob (M_lowOf l0 l8 h) (fun r77 =>
            ob (loopN (fun q => M_arcs_L89 d l0 l3 (w32 (l5 + 1)) (max l7 (w32 (r71 - r77))) l8 h q.1 q.2) LN (l6, 0)) (fun e132 =>
              M_arcs_j132 d l0 l3 (w32 (l5 + 1)) e132 (max l7 (w32 (r71 - r77))) l8 h))))
  else none
def M_arcs (d : Nat) (l0 l1 l3 : Int) (h : Hp) : Option (Int × Hp) :=
  if kK l0 = 11 then
  ob (M_laysWay (d - 1) l0 l1 h) (fun r2 =>
    if r2.1 = 0 then
      ob (M_in l3 0 2) (fun r21 =>
        if r21 = 0 then
          some ((-2), r2.2)
        else
          ob (loopN (fun q => M_arcs_L42 d l0 l3 r2.2 q.1 q.2.1 q.2.2.1 q.2.2.2) LN (0, 0, 0, 0)) (fun e138 =>
            some ((if l3 = 0 then e138.1 else (if l3 = 1 then e138.2.1 else e138.2.2)), r2.2)))
    else
      some (r2.1, r2.2))
  else none
def M_put (l0 l1 l2 : Int) (h : Hp) : Option (Int) :=
  if kK l0 = 11 then
  if kK (h l0 53) = 21 ∧ (0 : Int) ≤ w32 ((w32 (12 * l1)) + l2) ∧ w32 ((w32 (12 * l1)) + l2) < kL (h l0 53) then
  some (h (h l0 53) (w32 ((w32 (12 * l1)) + l2)))
  else none
  else none
def M_deepAbove_b (R : Nat → List Int → Hp → Option (Int)) (d : Nat) (l0 l1 l2 : Int) (h : Hp) : Option (Int) :=
  if kK l0 = 11 then
  ob (M_put l0 l1 l2 h) (fun r3 =>
    if kK (h l0 49) = 21 ∧ (0 : Int) ≤ l1 ∧ l1 < kL (h l0 49) then
    if kK (h l0 4) = 21 ∧ (0 : Int) ≤ h (h l0 49) l1 ∧ h (h l0 49) l1 < kL (h l0 4) then
    if kK (h l0 5) = 21 ∧ (0 : Int) ≤ w32 ((h (h l0 4) (h (h l0 49) l1)) + l2) ∧ w32 ((h (h l0 4) (h (h l0 49) l1)) + l2) < kL (h l0 5) then
    if h (h l0 5) (w32 ((h (h l0 4) (h (h l0 49) l1)) + l2)) = 0 then
      if r3 = (-1) then
        ob (R 1 [l0, l1, l2] h) (fun r49 =>
          some r49)
      else
        ob (R 0 [l0, r3, 0] h) (fun r40 =>
          some r40)
    else
      if h (h l0 5) (w32 ((h (h l0 4) (h (h l0 49) l1)) + l2)) = 4 then
        ob (R 0 [l0, r3, 0] h) (fun r62 =>
          some r62)
      else
        if h (h l0 5) (w32 ((h (h l0 4) (h (h l0 49) l1)) + l2)) = 3 then
          if kK (h l0 50) = 21 ∧ (0 : Int) ≤ l1 ∧ l1 < kL (h l0 50) then
          if kK (h l0 51) = 21 ∧ (0 : Int) ≤ l1 ∧ l1 < kL (h l0 51) then
          ob (R 1 [l0, h (h l0 50) l1, h (h l0 51) l1] h) (fun r85 =>
            some r85)
          else none
          else none
        else
          some 0
    else none
    else none
    else none)
  else none
def M_deepBelow_j79 (R : Nat → List Int → Hp → Option (Int)) (d : Nat) (l4 : Int) (h : Hp) : Option (Int) :=
  some (w32 (l4 + 1))
def M_deepBelow_b (R : Nat → List Int → Hp → Option (Int)) (d : Nat) (l0 l1 l2 : Int) (h : Hp) : Option (Int) :=
  if kK l0 = 11 then
  if kK (h l0 49) = 21 ∧ (0 : Int) ≤ l1 ∧ l1 < kL (h l0 49) then
  if kK (h l0 4) = 21 ∧ (0 : Int) ≤ h (h l0 49) l1 ∧ h (h l0 49) l1 < kL (h l0 4) then
  if kK (h l0 8) = 21 ∧ (0 : Int) ≤ w32 ((h (h l0 4) (h (h l0 49) l1)) + l2) ∧ w32 ((h (h l0 4) (h (h l0 49) l1)) + l2) < kL (h l0 8) then
  ob (M_own l0 (h (h l0 49) l1) (h (h l0 8) (w32 ((h (h l0 4) (h (h l0 49) l1)) + l2))) h) (fun r24 =>
    ob (R 0 [l0, l1, r24] h) (fun r27 =>
      if kK (h l0 9) = 21 ∧ (0 : Int) ≤ w32 ((h (h l0 4) (h (h l0 49) l1)) + l2) ∧ w32 ((h (h l0 4) (h (h l0 49) l1)) + l2) < kL (h l0 9) then
      if h (h l0 9) (w32 ((h (h l0 4) (h (h l0 49) l1)) + l2)) = (-1) then
        M_deepBelow_j79 R d r27 h
      else
        ob (M_own l0 (h (h l0 49) l1) (h (h l0 9) (w32 ((h (h l0 4) (h (h l0 49) l1)) + l2))) h) (fun r68 =>
          ob (R 0 [l0, l1, r68] h) (fun r71 =>
            M_deepBelow_j79 R d (max r27 r71) h))
      else none))
  else none
  else none
  else none
  else none
def M_deepAbove_G : Nat → Nat → List Int → Hp → Option (Int)
  | 0, _, _, _ => none
  | d + 1, k, as, h => if 0 ≤ d then (match k, as with
    | 0, [l0, l1, l2] => M_deepAbove_b (M_deepAbove_G d) d l0 l1 l2 h
    | 1, [l0, l1, l2] => M_deepBelow_b (M_deepAbove_G d) d l0 l1 l2 h
    | _, _ => none) else none
def M_deepAbove (d : Nat) (l0 l1 l2 : Int) (h : Hp) : Option (Int) := M_deepAbove_G d 0 [l0, l1, l2] h
def M_deepBelow (d : Nat) (l0 l1 l2 : Int) (h : Hp) : Option (Int) := M_deepAbove_G d 1 [l0, l1, l2] h
def M_branchesOf_j36 (l0 l1 l3 s0 s1 : Int) (h : Hp) : Option ((Int × Int) ⊕ (Int)) :=
  some (.inl (w32 (s1 + s0), w32 (l3 + 1)))
def M_branchesOf_L9 (l0 l1 : Int) (h : Hp) (l2 l3 : Int) : Option ((Int × Int) ⊕ (Int)) :=
  if kK l0 = 11 then
  if kK (h l0 4) = 21 ∧ (0 : Int) ≤ w32 (l1 + 1) ∧ w32 (l1 + 1) < kL (h l0 4) then
  if h (h l0 4) (w32 (l1 + 1)) ≤ l3 then
    some (.inr l2)
  else
    if kK (h l0 5) = 21 ∧ (0 : Int) ≤ l3 ∧ l3 < kL (h l0 5) then
    M_branchesOf_j36 l0 l1 l3 ((if h (h l0 5) l3 = 0 then 1 else 0)) l2 h
    else none
  else none
  else none
def M_branchesOf (l0 l1 : Int) (h : Hp) : Option (Int) :=
  if kK l0 = 11 then
  if kK (h l0 4) = 21 ∧ (0 : Int) ≤ l1 ∧ l1 < kL (h l0 4) then
  ob (loopN (fun q => M_branchesOf_L9 l0 l1 h q.1 q.2) LN (0, h (h l0 4) l1)) (fun e44 =>
    some e44)
  else none
  else none
def M_grown_L45 (d : Nat) (l0 : Int) (h : Hp) (l5 l6 : Int) : Option ((Int × Int) ⊕ (Int)) :=
  if kK l0 = 11 then
  if h l0 48 ≤ l6 then
    some (.inr l5)
  else
    if kK (h l0 49) = 21 ∧ (0 : Int) ≤ l6 ∧ l6 < kL (h l0 49) then
    ob (M_branchesOf l0 (h (h l0 49) l6) h) (fun r64 =>
      some (.inl (w32 (l5 + r64), w32 (l6 + 1))))
    else none
  else none
def M_grown (d : Nat) (l0 l1 l3 : Int) (h : Hp) : Option (Int × Hp) :=
  if kK l0 = 11 then
  ob (M_laysWay (d - 1) l0 l1 h) (fun r2 =>
    if r2.1 = 0 then
      ob (M_in l3 0 1) (fun r19 =>
        if r19 = 0 then
          some ((-2), r2.2)
        else
          if l3 = 0 then
            ob (M_deepAbove (d - 1) l0 0 0 r2.2) (fun r35 =>
              some (r35, r2.2))
          else
            ob (loopN (fun q => M_grown_L45 d l0 r2.2 q.1 q.2) LN (0, 0)) (fun e76 =>
              some (e76, r2.2)))
    else
      some (r2.1, r2.2))
  else none
def M_puts (l0 l1 : Int) (h : Hp) : Option (Hp) :=
  if kK l0 = 11 then
  if kK (h l0 56) = 20 ∧ (0 : Int) ≤ h l0 57 ∧ h l0 57 < kL (h l0 56) then
  let h_1 := hput h (h l0 56) (h l0 57) (w8 (w8 l1))
  let h_2 := hput h_1 l0 57 (w32 ((h_1 l0 57) + 1))
  some h_2
  else none
  else none
def M_signs (l0 l1 : Int) (h : Hp) : Option (Hp) :=
  if kK l0 = 11 then
  if h l0 58 = 0 then
    ob (M_puts l0 l1 h) (fun r9 =>
      some r9)
  else
    some h
  else none
def M_tellsAbove_b (R : Nat → List Int → Hp → Option (Hp)) (d : Nat) (l0 l1 l2 : Int) (h : Hp) : Option (Hp) :=
  if kK l0 = 11 then
  ob (M_put l0 l1 l2 h) (fun r3 =>
    if kK (h l0 49) = 21 ∧ (0 : Int) ≤ l1 ∧ l1 < kL (h l0 49) then
    if kK (h l0 4) = 21 ∧ (0 : Int) ≤ h (h l0 49) l1 ∧ h (h l0 49) l1 < kL (h l0 4) then
    if kK (h l0 5) = 21 ∧ (0 : Int) ≤ w32 ((h (h l0 4) (h (h l0 49) l1)) + l2) ∧ w32 ((h (h l0 4) (h (h l0 49) l1)) + l2) < kL (h l0 5) then
    if h (h l0 5) (w32 ((h (h l0 4) (h (h l0 49) l1)) + l2)) = 0 then
      if r3 = (-1) then
        ob (R 1 [l0, l1, l2] h) (fun r77 =>
          some r77)
      else
        ob (R 0 [l0, r3, 0] h) (fun r68 =>
          some r68)
    else
      if h (h l0 5) (w32 ((h (h l0 4) (h (h l0 49) l1)) + l2)) = 1 then
        if kK (h l0 6) = 21 ∧ (0 : Int) ≤ w32 ((h (h l0 4) (h (h l0 49) l1)) + l2) ∧ w32 ((h (h l0 4) (h (h l0 49) l1)) + l2) < kL (h l0 6) then
        ob (M_puts l0 (w32 (97 + (h (h l0 6) (w32 ((h (h l0 4) (h (h l0 49) l1)) + l2))))) h) (fun r94 =>
          some r94)
        else none
      else
        if h (h l0 5) (w32 ((h (h l0 4) (h (h l0 49) l1)) + l2)) = 2 then
          ob (M_signs l0 46 h) (fun r103 =>
            some r103)
        else
          if h (h l0 5) (w32 ((h (h l0 4) (h (h l0 49) l1)) + l2)) = 3 then
            if kK (h l0 50) = 21 ∧ (0 : Int) ≤ l1 ∧ l1 < kL (h l0 50) then
            if kK (h l0 51) = 21 ∧ (0 : Int) ≤ l1 ∧ l1 < kL (h l0 51) then
            ob (R 1 [l0, h (h l0 50) l1, h (h l0 51) l1] h) (fun r122 =>
              some r122)
            else none
            else none
          else
            ob (R 0 [l0, r3, 0] h) (fun r131 =>
              some r131)
    else none
    else none
    else none)
  else none
def M_tellsBelow_j94 (R : Nat → List Int → Hp → Option (Hp)) (d : Nat) (l0 : Int) (h : Hp) : Option (Hp) :=
  if kK l0 = 11 then
  ob (M_signs l0 41 h) (fun r97 =>
    some r97)
  else none
def M_tellsBelow_b (R : Nat → List Int → Hp → Option (Hp)) (d : Nat) (l0 l1 l2 : Int) (h : Hp) : Option (Hp) :=
  if kK l0 = 11 then
  if kK (h l0 49) = 21 ∧ (0 : Int) ≤ l1 ∧ l1 < kL (h l0 49) then
  if kK (h l0 4) = 21 ∧ (0 : Int) ≤ h (h l0 49) l1 ∧ h (h l0 49) l1 < kL (h l0 4) then
  ob (M_signs l0 40 h) (fun r20 =>
    if kK (r20 l0 6) = 21 ∧ (0 : Int) ≤ w32 ((h (h l0 4) (h (h l0 49) l1)) + l2) ∧ w32 ((h (h l0 4) (h (h l0 49) l1)) + l2) < kL (r20 l0 6) then
    ob (M_signs l0 (w32 (65 + (r20 (r20 l0 6) (w32 ((h (h l0 4) (h (h l0 49) l1)) + l2))))) r20) (fun r34 =>
      ob (M_signs l0 32 r34) (fun r40 =>
        if kK (r40 l0 8) = 21 ∧ (0 : Int) ≤ w32 ((h (h l0 4) (h (h l0 49) l1)) + l2) ∧ w32 ((h (h l0 4) (h (h l0 49) l1)) + l2) < kL (r40 l0 8) then
        ob (M_own l0 (h (h l0 49) l1) (r40 (r40 l0 8) (w32 ((h (h l0 4) (h (h l0 49) l1)) + l2))) r40) (fun r54 =>
          ob (R 0 [l0, l1, r54] r40) (fun r57 =>
            if kK (r57 l0 9) = 21 ∧ (0 : Int) ≤ w32 ((h (h l0 4) (h (h l0 49) l1)) + l2) ∧ w32 ((h (h l0 4) (h (h l0 49) l1)) + l2) < kL (r57 l0 9) then
            if r57 (r57 l0 9) (w32 ((h (h l0 4) (h (h l0 49) l1)) + l2)) = (-1) then
              M_tellsBelow_j94 R d l0 r57
            else
              ob (M_signs l0 32 r57) (fun r74 =>
                if kK (r74 l0 9) = 21 ∧ (0 : Int) ≤ w32 ((h (h l0 4) (h (h l0 49) l1)) + l2) ∧ w32 ((h (h l0 4) (h (h l0 49) l1)) + l2) < kL (r74 l0 9) then
                ob (M_own l0 (h (h l0 49) l1) (r74 (r74 l0 9) (w32 ((h (h l0 4) (h (h l0 49) l1)) + l2))) r74) (fun r88 =>
                  ob (R 0 [l0, l1, r88] r74) (fun r91 =>
                    M_tellsBelow_j94 R d l0 r91))
                else none)
            else none))
        else none))
    else none)
  else none
  else none
  else none
def M_tellsAbove_G : Nat → Nat → List Int → Hp → Option (Hp)
  | 0, _, _, _ => none
  | d + 1, k, as, h => if 1 ≤ d then (match k, as with
    | 0, [l0, l1, l2] => M_tellsAbove_b (M_tellsAbove_G d) d l0 l1 l2 h
    | 1, [l0, l1, l2] => M_tellsBelow_b (M_tellsAbove_G d) d l0 l1 l2 h
    | _, _ => none) else none
def M_tellsAbove (d : Nat) (l0 l1 l2 : Int) (h : Hp) : Option (Hp) := M_tellsAbove_G d 0 [l0, l1, l2] h
def M_tellsBelow (d : Nat) (l0 l1 l2 : Int) (h : Hp) : Option (Hp) := M_tellsAbove_G d 1 [l0, l1, l2] h
def M_tellsNumber_j37 (l0 l1 : Int) (h : Hp) : Option (Hp) :=
  if kK l0 = 11 then
  ob (M_puts l0 (w32 (48 + (w32 (Int.tmod l1 10)))) h) (fun r45 =>
    some r45)
  else none
def M_tellsNumber_j17 (l0 l1 : Int) (h : Hp) : Option (Hp) :=
  if l1 ≤ 9 then
    M_tellsNumber_j37 l0 l1 h
  else
    if kK l0 = 11 then
    ob (M_puts l0 (w32 (48 + (w32 (Int.tmod (w32 (Int.tdiv l1 10)) 10)))) h) (fun r34 =>
      M_tellsNumber_j37 l0 l1 r34)
    else none
def M_tellsNumber (l0 l1 : Int) (h : Hp) : Option (Hp) :=
  if l1 ≤ 99 then
    M_tellsNumber_j17 l0 l1 h
  else
    if kK l0 = 11 then
    ob (M_puts l0 (w32 (48 + (w32 (Int.tdiv l1 100)))) h) (fun r14 =>
      M_tellsNumber_j17 l0 l1 r14)
    else none
def M_tell (d : Nat) (l0 l1 : Int) (h : Hp) : Option (Int × Hp) :=
  if kK l0 = 11 then
  ob (M_laysWay (d - 1) l0 l1 h) (fun r2 =>
    if r2.1 = 0 then
      let h_1 := hput r2.2 l0 57 0
      let h_2 := hput h_1 l0 58 0
      ob (M_tellsAbove (d - 1) l0 0 0 h_2) (fun r25 =>
        some (r25 l0 57, r25))
    else
      some (r2.1, r2.2))
  else none
def M_tellWay_j79 (d : Nat) (l0 l4 : Int) (h : Hp) : Option ((Int × Hp) ⊕ (Hp)) :=
  if kK l0 = 11 then
  ob (M_puts l0 59 h) (fun r82 =>
    some (.inl (w32 (l4 + 1), r82)))
  else none
def M_tellWay_L20 (d : Nat) (l0 : Int) (l4 : Int) (h : Hp) : Option ((Int × Hp) ⊕ (Hp)) :=
  if kK l0 = 11 then
  if h l0 48 ≤ l4 then
    some (.inr h)
  else
    if kK (h l0 49) = 21 ∧ (0 : Int) ≤ l4 ∧ l4 < kL (h l0 49) then
    ob (M_tellsNumber l0 (h (h l0 49) l4) h) (fun r37 =>
      if l4 ≤ 0 then
        M_tellWay_j79 d l0 l4 r37
      else
        ob (M_puts l0 32 r37) (fun r48 =>
          if kK (r48 l0 50) = 21 ∧ (0 : Int) ≤ l4 ∧ l4 < kL (r48 l0 50) then
          ob (M_tellsNumber l0 (r48 (r48 l0 50) l4) r48) (fun r59 =>
            ob (M_puts l0 32 r59) (fun r65 =>
              if kK (r65 l0 51) = 21 ∧ (0 : Int) ≤ l4 ∧ l4 < kL (r65 l0 51) then
              ob (M_tellsNumber l0 (r65 (r65 l0 51) l4) r65) (fun r76 =>
                M_tellWay_j79 d l0 l4 r76)
              else none))
          else none))
    else none
  else none
def M_tellWay (d : Nat) (l0 l1 : Int) (h : Hp) : Option (Int × Hp) :=
  if kK l0 = 11 then
  ob (M_laysWay (d - 1) l0 l1 h) (fun r2 =>
    if r2.1 = 0 then
      let h_1 := hput r2.2 l0 57 0
      ob (loopN (fun q => M_tellWay_L20 d l0 q.1 q.2) LN (0, h_1)) (fun e91 =>
        some (e91 l0 57, e91))
    else
      some (r2.1, r2.2))
  else none
def M_octet (l0 l1 : Int) (h : Hp) : Option (Int) :=
  if kK l0 = 11 then
  ob (M_in l1 0 (w32 ((h l0 57) - 1))) (fun r10 =>
    if r10 = 0 then
      some ((-1))
    else
      if kK (h l0 56) = 20 ∧ (0 : Int) ≤ l1 ∧ l1 < kL (h l0 56) then
      some (h (h l0 56) l1)
      else none)
  else none
def M_numberToken_L42 (l0 : Int) (h : Hp) : Option ((Hp) ⊕ (Hp)) :=
  if kK l0 = 11 then
  ob (M_see l0 (h l0 23) h) (fun r47 =>
    ob (M_in r47 48 57) (fun r57 =>
      if r57 = 0 then
        some (.inr h)
      else
        ob (M_see l0 (h l0 23) h) (fun r79 =>
          let h_3 := hput h l0 26 (min 99999 (w32 ((w32 ((w32 (10 * (h l0 26))) + r79)) - 48)))
          let h_4 := hput h_3 l0 23 (w32 ((h_3 l0 23) + 1))
          let h_5 := hput h_4 l0 25 6
          some (.inl h_5))))
  else none
def M_numberToken_j34 (l0 s0 s1 : Int) (h : Hp) : Option (Hp) :=
  if kK s1 = 11 then
  let h_1 := hput h s1 25 s0
  if kK l0 = 11 then
  let h_2 := hput h_1 l0 26 0
  ob (loopN (fun q => M_numberToken_L42 l0 q) LN h_2) (fun e111 =>
    if e111 l0 25 = 4 then
      let h_6 := hput e111 l0 23 (w32 ((e111 l0 23) + 1))
      some h_6
    else
      some e111)
  else none
  else none
def M_numberToken (l0 : Int) (h : Hp) : Option (Hp) :=
  if kK l0 = 11 then
  ob (M_skips l0 h) (fun r1 =>
    ob (M_see l0 (r1 l0 23) r1) (fun r9 =>
      M_numberToken_j34 l0 ((if r9 = (-1) then 0 else (if r9 = 59 then 4 else 5))) l0 r1))
  else none
def M_hearsNumber_j27 (l0 l1 s0 s1 : Int) (h : Hp) : Option (Int × Hp) :=
  if kK s1 = 11 then
  if s0 = 0 ∨ s0 = 1 then
  let h_1 := hput h s1 61 s0
  if kK l0 = 11 then
  ob (M_numberToken l0 h_1) (fun r31 =>
    some (l1, r31))
  else none
  else none
  else none
def M_hearsNumber_j26 (l0 l1 s0 : Int) (h : Hp) : Option (Int × Hp) :=
  M_hearsNumber_j27 l0 l1 0 s0 h
def M_hearsNumber (l0 : Int) (h : Hp) : Option (Int × Hp) :=
  if kK l0 = 11 then
  if h l0 61 = 0 then
    M_hearsNumber_j26 l0 (h l0 26) l0 h
  else
    if h l0 25 = 6 then
      M_hearsNumber_j27 l0 (h l0 26) 1 l0 h
    else
      M_hearsNumber_j26 l0 (h l0 26) l0 h
  else none
def M_hears_j158 (l0 s0 s1 : Int) (h : Hp) : Option ((Hp) ⊕ ((Hp) ⊕ (Hp))) :=
  if kK s1 = 11 then
  if s0 = 0 ∨ s0 = 1 then
  let h_8 := hput h s1 61 s0
  if kK l0 = 11 then
  let h_9 := hput h_8 l0 60 (w32 ((h_8 l0 60) + 1))
  ob (M_numberToken l0 h_9) (fun r172 =>
    some (.inl r172))
  else none
  else none
  else none
def M_hears_j157 (l0 s0 : Int) (h : Hp) : Option ((Hp) ⊕ ((Hp) ⊕ (Hp))) :=
  M_hears_j158 l0 0 s0 h
def M_hears_j136 (l0 s0 s1 s2 : Int) (h : Hp) : Option ((Hp) ⊕ ((Hp) ⊕ (Hp))) :=
  if kK s2 = 21 ∧ (0 : Int) ≤ s1 ∧ s1 < kL s2 then
  let h_7 := hput h s2 s1 s0
  if kK l0 = 11 then
  if h_7 l0 61 = 0 then
    M_hears_j157 l0 l0 h_7
  else
    if h_7 l0 25 = 4 then
      M_hears_j158 l0 1 l0 h_7
    else
      M_hears_j157 l0 l0 h_7
  else none
  else none
def M_hears_j108 (l0 s0 s1 s2 : Int) (h : Hp) : Option ((Hp) ⊕ ((Hp) ⊕ (Hp))) :=
  if kK s2 = 21 ∧ (0 : Int) ≤ s1 ∧ s1 < kL s2 then
  let h_6 := hput h s2 s1 s0
  if kK l0 = 11 then
  if h_6 l0 60 = 0 then
    M_hears_j136 l0 ((-1)) (w32 ((w32 (3 * (h_6 l0 60))) + 2)) (h_6 l0 59) h_6
  else
    ob (M_hearsNumber l0 h_6) (fun r133 =>
      M_hears_j136 l0 r133.1 (w32 ((w32 (3 * (h_6 l0 60))) + 2)) (h_6 l0 59) r133.2)
  else none
  else none
def M_hears_j55 (l0 s0 s1 : Int) (h : Hp) : Option ((Hp) ⊕ ((Hp) ⊕ (Hp))) :=
  if kK s1 = 11 then
  if s0 = 0 ∨ s0 = 1 then
  let h_4 := hput h s1 61 s0
  if kK l0 = 11 then
  if h_4 l0 61 = 0 then
    some (.inr (.inl (h_4)))
  else
    ob (M_hearsNumber l0 h_4) (fun r77 =>
      if kK (h_4 l0 59) = 21 ∧ (0 : Int) ≤ w32 (3 * (h_4 l0 60)) ∧ w32 (3 * (h_4 l0 60)) < kL (h_4 l0 59) then
      let h_5 := hput r77.2 (h_4 l0 59) (w32 (3 * (h_4 l0 60))) r77.1
      if h_5 l0 60 = 0 then
        M_hears_j108 l0 ((-1)) (w32 ((w32 (3 * (h_5 l0 60))) + 1)) (h_5 l0 59) h_5
      else
        ob (M_hearsNumber l0 h_5) (fun r105 =>
          M_hears_j108 l0 r105.1 (w32 ((w32 (3 * (h_5 l0 60))) + 1)) (h_5 l0 59) r105.2)
      else none)
  else none
  else none
  else none
def M_hears_j40 (l0 : Int) (h : Hp) : Option ((Hp) ⊕ ((Hp) ⊕ (Hp))) :=
  if kK l0 = 11 then
  M_hears_j55 l0 ((if 40 ≤ h l0 60 then 0 else 1)) l0 h
  else none
def M_hears_L19 (l0 : Int) (h : Hp) : Option ((Hp) ⊕ ((Hp) ⊕ (Hp))) :=
  if kK l0 = 11 then
  if h l0 61 = 0 then
    some (.inr (.inr (h)))
  else
    if h l0 25 = 0 then
      if h l0 60 = 0 then
        M_hears_j40 l0 h
      else
        some (.inr (.inr (h)))
    else
      M_hears_j40 l0 h
  else none
def M_hears (l0 : Int) (h : Hp) : Option (Hp) :=
  if kK l0 = 11 then
  let h_1 := hput h l0 23 0
  let h_2 := hput h_1 l0 60 0
  let h_3 := hput h_2 l0 61 1
  ob (M_numberToken l0 h_3) (fun r16 =>
    ob (loopN (fun q => M_hears_L19 l0 q) LN r16) (fun q19 =>
      match q19 with
      | .inl e65 =>
        some e65
      | .inr e178 =>
        some e178))
  else none
def M_canPut_j226 (h : Hp) : Option (Int) :=
  some 0
def M_canPut_j184 (l0 l2 l3 l4 l5 s0 : Int) (h : Hp) : Option (Int) :=
  if s0 = 0 then
    M_canPut_j226 h
  else
    if kK l0 = 11 then
    if kK (h l0 6) = 21 ∧ (0 : Int) ≤ l5 ∧ l5 < kL (h l0 6) then
    ob (M_root l0 l2 h) (fun r204 =>
      if kK (h l0 6) = 21 ∧ (0 : Int) ≤ r204 ∧ r204 < kL (h l0 6) then
      if h (h l0 6) l5 = h (h l0 6) r204 then
        ob (M_put l0 l3 l4 h) (fun r215 =>
          if r215 = (-1) then
            some 1
          else
            M_canPut_j226 h)
      else
        M_canPut_j226 h
      else none)
    else none
    else none
def M_canPut_j183 (l0 l2 l3 l4 l5 : Int) (h : Hp) : Option (Int) :=
  M_canPut_j184 l0 l2 l3 l4 l5 0 h
def M_canPut_j156 (l0 l2 l3 l4 l5 : Int) (h : Hp) : Option (Int) :=
  M_canPut_j184 l0 l2 l3 l4 l5 0 h
def M_canPut_j83 (h : Hp) : Option (Int) :=
  some 0
def M_canPut (l0 l1 : Int) (h : Hp) : Option (Int) :=
  if kK l0 = 11 then
  if kK (h l0 59) = 21 ∧ (0 : Int) ≤ w32 (3 * l1) ∧ w32 (3 * l1) < kL (h l0 59) then
  if kK (h l0 59) = 21 ∧ (0 : Int) ≤ w32 ((w32 (3 * l1)) + 1) ∧ w32 ((w32 (3 * l1)) + 1) < kL (h l0 59) then
  if kK (h l0 59) = 21 ∧ (0 : Int) ≤ w32 ((w32 (3 * l1)) + 2) ∧ w32 ((w32 (3 * l1)) + 2) < kL (h l0 59) then
  ob (M_isTree l0 (h (h l0 59) (w32 (3 * l1))) h) (fun r34 =>
    if r34 = 0 then
      some 0
    else
      ob (M_isOut l0 (h (h l0 59) (w32 (3 * l1))) h) (fun r42 =>
        if r42 = 0 then
          if l1 = 0 then
            ob (M_isGuest l0 (h (h l0 59) (w32 (3 * l1))) h) (fun r56 =>
              if r56 = 0 then
                ob (M_root l0 (h (h l0 59) (w32 (3 * l1))) h) (fun r68 =>
                  if kK (h l0 6) = 21 ∧ (0 : Int) ≤ r68 ∧ r68 < kL (h l0 6) then
                  ob (M_start l0 h) (fun r73 =>
                    if h (h l0 6) r68 = r73 then
                      some 1
                    else
                      M_canPut_j83 h)
                  else none)
              else
                M_canPut_j83 h)
          else
            if l1 ≤ h (h l0 59) (w32 ((w32 (3 * l1)) + 1)) then
              some 0
            else
              if kK (h l0 49) = 21 ∧ (0 : Int) ≤ h (h l0 59) (w32 ((w32 (3 * l1)) + 1)) ∧ h (h l0 59) (w32 ((w32 (3 * l1)) + 1)) < kL (h l0 49) then
              ob (M_nodesOf l0 (h (h l0 49) (h (h l0 59) (w32 ((w32 (3 * l1)) + 1)))) h) (fun r99 =>
                if h (h l0 59) (w32 ((w32 (3 * l1)) + 2)) < r99 then
                  if kK (h l0 4) = 21 ∧ (0 : Int) ≤ h (h l0 49) (h (h l0 59) (w32 ((w32 (3 * l1)) + 1))) ∧ h (h l0 49) (h (h l0 59) (w32 ((w32 (3 * l1)) + 1))) < kL (h l0 4) then
                  if kK (h l0 5) = 21 ∧ (0 : Int) ≤ w32 ((h (h l0 4) (h (h l0 49) (h (h l0 59) (w32 ((w32 (3 * l1)) + 1))))) + (h (h l0 59) (w32 ((w32 (3 * l1)) + 2)))) ∧ w32 ((h (h l0 4) (h (h l0 49) (h (h l0 59) (w32 ((w32 (3 * l1)) + 1))))) + (h (h l0 59) (w32 ((w32 (3 * l1)) + 2)))) < kL (h l0 5) then
                  if h (h l0 5) (w32 ((h (h l0 4) (h (h l0 49) (h (h l0 59) (w32 ((w32 (3 * l1)) + 1))))) + (h (h l0 59) (w32 ((w32 (3 * l1)) + 2))))) = 0 then
                    ob (M_isGuest l0 (h (h l0 59) (w32 (3 * l1))) h) (fun r135 =>
                      if r135 = 0 then
                        M_canPut_j156 l0 (h (h l0 59) (w32 (3 * l1))) (h (h l0 59) (w32 ((w32 (3 * l1)) + 1))) (h (h l0 59) (w32 ((w32 (3 * l1)) + 2))) (w32 ((h (h l0 4) (h (h l0 49) (h (h l0 59) (w32 ((w32 (3 * l1)) + 1))))) + (h (h l0 59) (w32 ((w32 (3 * l1)) + 2))))) h
                      else
                        if kK (h l0 7) = 21 ∧ (0 : Int) ≤ w32 ((h (h l0 4) (h (h l0 49) (h (h l0 59) (w32 ((w32 (3 * l1)) + 1))))) + (h (h l0 59) (w32 ((w32 (3 * l1)) + 2)))) ∧ w32 ((h (h l0 4) (h (h l0 49) (h (h l0 59) (w32 ((w32 (3 * l1)) + 1))))) + (h (h l0 59) (w32 ((w32 (3 * l1)) + 2)))) < kL (h l0 7) then
                        if h (h l0 7) (w32 ((h (h l0 4) (h (h l0 49) (h (h l0 59) (w32 ((w32 (3 * l1)) + 1))))) + (h (h l0 59) (w32 ((w32 (3 * l1)) + 2))))) = 1 then
                          M_canPut_j156 l0 (h (h l0 59) (w32 (3 * l1))) (h (h l0 59) (w32 ((w32 (3 * l1)) + 1))) (h (h l0 59) (w32 ((w32 (3 * l1)) + 2))) (w32 ((h (h l0 4) (h (h l0 49) (h (h l0 59) (w32 ((w32 (3 * l1)) + 1))))) + (h (h l0 59) (w32 ((w32 (3 * l1)) + 2))))) h
                        else
                          M_canPut_j184 l0 (h (h l0 59) (w32 (3 * l1))) (h (h l0 59) (w32 ((w32 (3 * l1)) + 1))) (h (h l0 59) (w32 ((w32 (3 * l1)) + 2))) (w32 ((h (h l0 4) (h (h l0 49) (h (h l0 59) (w32 ((w32 (3 * l1)) + 1))))) + (h (h l0 59) (w32 ((w32 (3 * l1)) + 2))))) 1 h
                        else none)
                  else
                    if h (h l0 5) (w32 ((h (h l0 4) (h (h l0 49) (h (h l0 59) (w32 ((w32 (3 * l1)) + 1))))) + (h (h l0 59) (w32 ((w32 (3 * l1)) + 2))))) = 4 then
                      ob (M_isGuest l0 (h (h l0 59) (w32 (3 * l1))) h) (fun r173 =>
                        if r173 = 0 then
                          M_canPut_j184 l0 (h (h l0 59) (w32 (3 * l1))) (h (h l0 59) (w32 ((w32 (3 * l1)) + 1))) (h (h l0 59) (w32 ((w32 (3 * l1)) + 2))) (w32 ((h (h l0 4) (h (h l0 49) (h (h l0 59) (w32 ((w32 (3 * l1)) + 1))))) + (h (h l0 59) (w32 ((w32 (3 * l1)) + 2))))) 1 h
                        else
                          M_canPut_j183 l0 (h (h l0 59) (w32 (3 * l1))) (h (h l0 59) (w32 ((w32 (3 * l1)) + 1))) (h (h l0 59) (w32 ((w32 (3 * l1)) + 2))) (w32 ((h (h l0 4) (h (h l0 49) (h (h l0 59) (w32 ((w32 (3 * l1)) + 1))))) + (h (h l0 59) (w32 ((w32 (3 * l1)) + 2))))) h)
                    else
                      M_canPut_j183 l0 (h (h l0 59) (w32 (3 * l1))) (h (h l0 59) (w32 ((w32 (3 * l1)) + 1))) (h (h l0 59) (w32 ((w32 (3 * l1)) + 2))) (w32 ((h (h l0 4) (h (h l0 49) (h (h l0 59) (w32 ((w32 (3 * l1)) + 1))))) + (h (h l0 59) (w32 ((w32 (3 * l1)) + 2))))) h
                  else none
                  else none
                else
                  some 0)
              else none
        else
          some 0))
  else none
  else none
  else none
  else none
def M_lacks_j71 (l0 l1 l2 l3 l4 : Int) (h : Hp) : Option ((Int) ⊕ ((Unit) ⊕ (Unit))) :=
  some (.inl (w32 (l4 + 1)))
def M_lacks_L10 (l0 l1 l2 l3 : Int) (h : Hp) (l4 : Int) : Option ((Int) ⊕ ((Unit) ⊕ (Unit))) :=
  if kK l0 = 11 then
  ob (M_nodesOf l0 l3 h) (fun r14 =>
    if r14 ≤ l4 then
      some (.inr (.inr (())))
    else
      if kK (h l0 4) = 21 ∧ (0 : Int) ≤ l3 ∧ l3 < kL (h l0 4) then
      if kK (h l0 5) = 21 ∧ (0 : Int) ≤ w32 ((h (h l0 4) l3) + l4) ∧ w32 ((h (h l0 4) l3) + l4) < kL (h l0 5) then
      if h (h l0 5) (w32 ((h (h l0 4) l3) + l4)) = l2 then
        ob (M_put l0 l1 l4 h) (fun r46 =>
          if r46 = (-1) then
            if l2 = 4 then
              some (.inr (.inl (())))
            else
              if kK (h l0 7) = 21 ∧ (0 : Int) ≤ w32 ((h (h l0 4) l3) + l4) ∧ w32 ((h (h l0 4) l3) + l4) < kL (h l0 7) then
              if h (h l0 7) (w32 ((h (h l0 4) l3) + l4)) = 2 then
                some (.inr (.inl (())))
              else
                M_lacks_j71 l0 l1 l2 l3 l4 h
              else none
          else
            M_lacks_j71 l0 l1 l2 l3 l4 h)
      else
        M_lacks_j71 l0 l1 l2 l3 l4 h
      else none
      else none)
  else none
def M_lacks (l0 l1 l2 : Int) (h : Hp) : Option (Int) :=
  if kK l0 = 11 then
  if kK (h l0 49) = 21 ∧ (0 : Int) ≤ l1 ∧ l1 < kL (h l0 49) then
  ob (loopN (fun q => M_lacks_L10 l0 l1 l2 (h (h l0 49) l1) h q) LN 0) (fun q10 =>
    match q10 with
    | .inl e69 =>
      some 1
    | .inr e77 =>
      some 0)
  else none
  else none
def M_isSentenceTold_L15 (l0 : Int) (h : Hp) (l1 : Int) : Option ((Int) ⊕ ((Unit) ⊕ (Unit))) :=
  if kK l0 = 11 then
  if h l0 57 ≤ l1 then
    some (.inr (.inr (())))
  else
    if kK (h l0 56) = 20 ∧ (0 : Int) ≤ l1 ∧ l1 < kL (h l0 56) then
    if kK (h l0 31) = 21 ∧ (0 : Int) ≤ l1 ∧ l1 < kL (h l0 31) then
    if h (h l0 56) l1 = w32 (97 + (h (h l0 31) l1)) then
      some (.inl (w32 (l1 + 1)))
    else
      some (.inr (.inl (())))
    else none
    else none
  else none
def M_isSentenceTold (l0 : Int) (h : Hp) : Option (Int) :=
  if kK l0 = 11 then
  if h l0 57 = h l0 32 then
    ob (loopN (fun q => M_isSentenceTold_L15 l0 h q) LN 0) (fun q15 =>
      match q15 with
      | .inl e41 =>
        some 0
      | .inr e49 =>
        some 1)
  else
    some 0
  else none
def M_test_L34 (d : Nat) (l0 : Int) (l1 : Int) (h : Hp) : Option ((Int × Hp) ⊕ ((Int × Hp) ⊕ (Hp))) :=
  if kK l0 = 11 then
  if h l0 60 ≤ l1 then
    some (.inr (.inr (h)))
  else
    ob (M_canPut l0 l1 h) (fun r44 =>
      if r44 = 0 then
        some (.inr (.inl ((l1, h))))
      else
        if kK (h l0 59) = 21 ∧ (0 : Int) ≤ w32 (3 * l1) ∧ w32 (3 * l1) < kL (h l0 59) then
        if kK (h l0 59) = 21 ∧ (0 : Int) ≤ w32 ((w32 (3 * l1)) + 1) ∧ w32 ((w32 (3 * l1)) + 1) < kL (h l0 59) then
        if kK (h l0 59) = 21 ∧ (0 : Int) ≤ w32 ((w32 (3 * l1)) + 2) ∧ w32 ((w32 (3 * l1)) + 2) < kL (h l0 59) then
        ob (M_newStep l0 (h (h l0 59) (w32 (3 * l1))) (h (h l0 59) (w32 ((w32 (3 * l1)) + 1))) (h (h l0 59) (w32 ((w32 (3 * l1)) + 2))) h) (fun r84 =>
          some (.inl (w32 (l1 + 1), r84.2)))
        else none
        else none
        else none)
  else none
def M_test_L96 (d : Nat) (l0 : Int) (h : Hp) (l1 : Int) : Option ((Int) ⊕ ((Int) ⊕ (Unit))) :=
  if kK l0 = 11 then
  if h l0 60 ≤ l1 then
    some (.inr (.inr (())))
  else
    ob (M_lacks l0 l1 4 h) (fun r107 =>
      if r107 = 0 then
        some (.inl (w32 (l1 + 1)))
      else
        some (.inr (.inl (l1))))
  else none
def M_test_L127 (d : Nat) (l0 : Int) (h : Hp) (l1 : Int) : Option ((Int) ⊕ ((Int) ⊕ (Unit))) :=
  if kK l0 = 11 then
  if h l0 60 ≤ l1 then
    some (.inr (.inr (())))
  else
    ob (M_lacks l0 l1 0 h) (fun r138 =>
      if r138 = 0 then
        some (.inl (w32 (l1 + 1)))
      else
        some (.inr (.inl (l1))))
  else none
def M_test (d : Nat) (l0 : Int) (h : Hp) : Option (Int × Hp) :=
  if kK l0 = 11 then
  let h_1 := hput h l0 22 (h l0 20)
  let h_2 := hput h_1 l0 20 0
  ob (M_hears l0 h_2) (fun r14 =>
    if r14 l0 61 = 0 then
      some ((-4), r14)
    else
      let h_3 := hput r14 l0 48 0
      ob (loopN (fun q => M_test_L34 d l0 q.1 q.2) LN (0, h_3)) (fun q34 =>
        match q34 with
        | .inl e50 =>
          some (w32 (((-100)) - e50.1), e50.2)
        | .inr e94 =>
          ob (loopN (fun q => M_test_L96 d l0 e94 q) LN 0) (fun q96 =>
            match q96 with
            | .inl e113 =>
              some (w32 (((-200)) - e113), e94)
            | .inr e125 =>
              ob (loopN (fun q => M_test_L127 d l0 e94 q) LN 0) (fun q127 =>
                match q127 with
                | .inl e144 =>
                  some (w32 (((-300)) - e144), e94)
                | .inr e156 =>
                  let h_4 := hput e94 l0 57 0
                  let h_5 := hput h_4 l0 58 1
                  ob (M_tellsAbove (d - 1) l0 0 0 h_5) (fun r169 =>
                    ob (M_isSentenceTold l0 r169) (fun r173 =>
                      some ((if r173 = 0 then 0 else 1), r169)))))))
  else none
