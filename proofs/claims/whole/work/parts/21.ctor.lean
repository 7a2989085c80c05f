/-! the constructors as plain functions, by program (wip/gen) -/
def Al_new (l0 : Int) (n : Nat) (h : Hp) : Option Hp :=
  if (0 : Int) ≤ l0 then
  some h
  else none
def By_new (l0 l1 : Int) (n : Nat) (h : Hp) : Option Hp :=
  if (0 : Int) ≤ l0 then
  if kK ((n : Nat) : Int) = 20 ∧ kL ((n : Nat) : Int) = max l1 0 then
  let h_1 := hnew h ((n : Nat) : Int)
  if kK l0 = 0 ∧ l0 < ((n + 1 : Nat) : Int) then
  let h_2 := hput h_1 l0 0 (((n : Nat) : Int))
  some h_2
  else none
  else none
  else none
def Gr_new (l0 : Int) (n : Nat) (h : Hp) : Option Hp :=
  if (0 : Int) ≤ l0 then
  if kK ((n : Nat) : Int) = 21 ∧ kL ((n : Nat) : Int) = 9 then
  let h_1 := hnew h ((n : Nat) : Int)
  if kK l0 = 3 ∧ l0 < ((n + 1 : Nat) : Int) then
  let h_2 := hput h_1 l0 6 (((n : Nat) : Int))
  if kK ((n + 1 : Nat) : Int) = 21 ∧ kL ((n + 1 : Nat) : Int) = 40 then
  let h_3 := hnew h_2 ((n + 1 : Nat) : Int)
  if kK l0 = 3 ∧ l0 < ((n + 2 : Nat) : Int) then
  let h_4 := hput h_3 l0 7 (((n + 1 : Nat) : Int))
  if kK ((n + 2 : Nat) : Int) = 21 ∧ kL ((n + 2 : Nat) : Int) = 40 then
  let h_5 := hnew h_4 ((n + 2 : Nat) : Int)
  if kK l0 = 3 ∧ l0 < ((n + 3 : Nat) : Int) then
  let h_6 := hput h_5 l0 8 (((n + 2 : Nat) : Int))
  if kK ((n + 3 : Nat) : Int) = 21 ∧ kL ((n + 3 : Nat) : Int) = 40 then
  let h_7 := hnew h_6 ((n + 3 : Nat) : Int)
  if kK l0 = 3 ∧ l0 < ((n + 4 : Nat) : Int) then
  let h_8 := hput h_7 l0 9 (((n + 3 : Nat) : Int))
  if kK ((n + 4 : Nat) : Int) = 21 ∧ kL ((n + 4 : Nat) : Int) = 40 then
  let h_9 := hnew h_8 ((n + 4 : Nat) : Int)
  if kK l0 = 3 ∧ l0 < ((n + 5 : Nat) : Int) then
  let h_10 := hput h_9 l0 10 (((n + 4 : Nat) : Int))
  if kK ((n + 5 : Nat) : Int) = 21 ∧ kL ((n + 5 : Nat) : Int) = 40 then
  let h_11 := hnew h_10 ((n + 5 : Nat) : Int)
  if kK l0 = 3 ∧ l0 < ((n + 6 : Nat) : Int) then
  let h_12 := hput h_11 l0 11 (((n + 5 : Nat) : Int))
  if kK ((n + 6 : Nat) : Int) = 21 ∧ kL ((n + 6 : Nat) : Int) = 40 then
  let h_13 := hnew h_12 ((n + 6 : Nat) : Int)
  if kK l0 = 3 ∧ l0 < ((n + 7 : Nat) : Int) then
  let h_14 := hput h_13 l0 12 (((n + 6 : Nat) : Int))
  if kK ((n + 7 : Nat) : Int) = 21 ∧ kL ((n + 7 : Nat) : Int) = 40 then
  let h_15 := hnew h_14 ((n + 7 : Nat) : Int)
  if kK l0 = 3 ∧ l0 < ((n + 8 : Nat) : Int) then
  let h_16 := hput h_15 l0 13 (((n + 7 : Nat) : Int))
  if kK ((n + 8 : Nat) : Int) = 21 ∧ kL ((n + 8 : Nat) : Int) = 40 then
  let h_17 := hnew h_16 ((n + 8 : Nat) : Int)
  if kK l0 = 3 ∧ l0 < ((n + 9 : Nat) : Int) then
  let h_18 := hput h_17 l0 14 (((n + 8 : Nat) : Int))
  if kK ((n + 9 : Nat) : Int) = 23 ∧ kL ((n + 9 : Nat) : Int) = 40 then
  let h_19 := hnew h_18 ((n + 9 : Nat) : Int)
  if kK l0 = 3 ∧ l0 < ((n + 10 : Nat) : Int) then
  let h_20 := hput h_19 l0 15 (((n + 9 : Nat) : Int))
  if kK ((n + 10 : Nat) : Int) = 21 ∧ kL ((n + 10 : Nat) : Int) = 40 then
  let h_21 := hnew h_20 ((n + 10 : Nat) : Int)
  if kK l0 = 3 ∧ l0 < ((n + 11 : Nat) : Int) then
  let h_22 := hput h_21 l0 16 (((n + 10 : Nat) : Int))
  if kK ((n + 11 : Nat) : Int) = 21 ∧ kL ((n + 11 : Nat) : Int) = 26 then
  let h_23 := hnew h_22 ((n + 11 : Nat) : Int)
  if kK l0 = 3 ∧ l0 < ((n + 12 : Nat) : Int) then
  let h_24 := hput h_23 l0 17 (((n + 11 : Nat) : Int))
  if kK ((n + 12 : Nat) : Int) = 21 ∧ kL ((n + 12 : Nat) : Int) = 26 then
  let h_25 := hnew h_24 ((n + 12 : Nat) : Int)
  if kK l0 = 3 ∧ l0 < ((n + 13 : Nat) : Int) then
  let h_26 := hput h_25 l0 18 (((n + 12 : Nat) : Int))
  some h_26
  else none
  else none
  else none
  else none
  else none
  else none
  else none
  else none
  else none
  else none
  else none
  else none
  else none
  else none
  else none
  else none
  else none
  else none
  else none
  else none
  else none
  else none
  else none
  else none
  else none
  else none
  else none
def GR_new (l0 : Int) (n : Nat) (h : Hp) : Option Hp :=
  if (0 : Int) ≤ l0 then
  if kK l0 = 4 ∧ l0 < ((n : Nat) : Int) then
  let h_1 := hput h l0 0 0
  let h_2 := hput h_1 l0 1 ((-1))
  if kK ((n : Nat) : Int) = 0 then
  let h_3 := hnew h_2 ((n : Nat) : Int)
  ob (By_new (((n : Nat) : Int)) 0 (n + 1) h_3) (fun r20 =>
    if (0 : Int) ≤ ((n : Nat) : Int) then
    if kK l0 = 4 ∧ l0 < ((n + 2 : Nat) : Int) then
    let h_4 := hput r20 l0 2 (((n : Nat) : Int))
    some h_4
    else none
    else none)
  else none
  else none
  else none
def Ch_new (l0 : Int) (n : Nat) (h : Hp) : Option Hp :=
  if (0 : Int) ≤ l0 then
  if kK ((n : Nat) : Int) = 3 then
  let h_1 := hnew h ((n : Nat) : Int)
  ob (Gr_new (((n : Nat) : Int)) (n + 1) h_1) (fun r9 =>
    if (0 : Int) ≤ ((n : Nat) : Int) then
    if kK l0 = 1 ∧ l0 < ((n + 14 : Nat) : Int) then
    let h_2 := hput r9 l0 0 (((n : Nat) : Int))
    if kK ((n + 14 : Nat) : Int) = 22 ∧ kL ((n + 14 : Nat) : Int) = 39600 then
    let h_3 := hnew h_2 ((n + 14 : Nat) : Int)
    if kK l0 = 1 ∧ l0 < ((n + 15 : Nat) : Int) then
    let h_4 := hput h_3 l0 4 (((n + 14 : Nat) : Int))
    if kK ((n + 15 : Nat) : Int) = 22 ∧ kL ((n + 15 : Nat) : Int) = 3960 then
    let h_5 := hnew h_4 ((n + 15 : Nat) : Int)
    if kK l0 = 1 ∧ l0 < ((n + 16 : Nat) : Int) then
    let h_6 := hput h_5 l0 5 (((n + 15 : Nat) : Int))
    some h_6
    else none
    else none
    else none
    else none
    else none
    else none)
  else none
  else none
def Co_new (l0 l1 : Int) (n : Nat) (h : Hp) : Option Hp :=
  ob (Al_new l0 (n) h) (fun r1 =>
    if (0 : Int) ≤ l0 then
    if kK l0 = 2 ∧ l0 < ((n : Nat) : Int) then
    let h_1 := hput r1 l0 0 l1
    some h_1
    else none
    else none)
def Su_new (l0 l1 : Int) (n : Nat) (h : Hp) : Option Hp :=
  ob (Al_new l0 (n) h) (fun r1 =>
    if (0 : Int) ≤ l0 then
    if kK l0 = 7 ∧ l0 < ((n : Nat) : Int) then
    let h_1 := hput r1 l0 0 l1
    some h_1
    else none
    else none)
def Ms_new (l0 : Int) (n : Nat) (h : Hp) : Option Hp :=
  ob (Al_new l0 (n) h) (fun r1 =>
    if (0 : Int) ≤ l0 then
    if kK ((n : Nat) : Int) = 21 ∧ kL ((n : Nat) : Int) = 64 then
    let h_1 := hnew r1 ((n : Nat) : Int)
    if kK l0 = 5 ∧ l0 < ((n + 1 : Nat) : Int) then
    let h_2 := hput h_1 l0 1 (((n : Nat) : Int))
    if kK ((n + 1 : Nat) : Int) = 22 ∧ kL ((n + 1 : Nat) : Int) = 208 then
    let h_3 := hnew h_2 ((n + 1 : Nat) : Int)
    if kK l0 = 5 ∧ l0 < ((n + 2 : Nat) : Int) then
    let h_4 := hput h_3 l0 2 (((n + 1 : Nat) : Int))
    some h_4
    else none
    else none
    else none
    else none
    else none)
def Wy_new (l0 : Int) (n : Nat) (h : Hp) : Option Hp :=
  if (0 : Int) ≤ l0 then
  if kK ((n : Nat) : Int) = 21 ∧ kL ((n : Nat) : Int) = 48 then
  let h_1 := hnew h ((n : Nat) : Int)
  if kK l0 = 8 ∧ l0 < ((n + 1 : Nat) : Int) then
  let h_2 := hput h_1 l0 4 (((n : Nat) : Int))
  if kK ((n + 1 : Nat) : Int) = 21 ∧ kL ((n + 1 : Nat) : Int) = 48 then
  let h_3 := hnew h_2 ((n + 1 : Nat) : Int)
  if kK l0 = 8 ∧ l0 < ((n + 2 : Nat) : Int) then
  let h_4 := hput h_3 l0 5 (((n + 1 : Nat) : Int))
  if kK ((n + 2 : Nat) : Int) = 21 ∧ kL ((n + 2 : Nat) : Int) = 48 then
  let h_5 := hnew h_4 ((n + 2 : Nat) : Int)
  if kK l0 = 8 ∧ l0 < ((n + 3 : Nat) : Int) then
  let h_6 := hput h_5 l0 6 (((n + 2 : Nat) : Int))
  if kK ((n + 3 : Nat) : Int) = 21 ∧ kL ((n + 3 : Nat) : Int) = 48 then
  let h_7 := hnew h_6 ((n + 3 : Nat) : Int)
  if kK l0 = 8 ∧ l0 < ((n + 4 : Nat) : Int) then
  let h_8 := hput h_7 l0 7 (((n + 3 : Nat) : Int))
  if kK ((n + 4 : Nat) : Int) = 21 ∧ kL ((n + 4 : Nat) : Int) = 576 then
  let h_9 := hnew h_8 ((n + 4 : Nat) : Int)
  if kK l0 = 8 ∧ l0 < ((n + 5 : Nat) : Int) then
  let h_10 := hput h_9 l0 8 (((n + 4 : Nat) : Int))
  if kK ((n + 5 : Nat) : Int) = 0 then
  let h_11 := hnew h_10 ((n + 5 : Nat) : Int)
  ob (By_new (((n + 5 : Nat) : Int)) 2048 (n + 6) h_11) (fun r53 =>
    if (0 : Int) ≤ ((n + 5 : Nat) : Int) then
    if kK l0 = 8 ∧ l0 < ((n + 7 : Nat) : Int) then
    let h_12 := hput r53 l0 9 (((n + 5 : Nat) : Int))
    if kK ((n + 7 : Nat) : Int) = 0 then
    let h_13 := hnew h_12 ((n + 7 : Nat) : Int)
    ob (By_new (((n + 7 : Nat) : Int)) 576 (n + 8) h_13) (fun r67 =>
      if (0 : Int) ≤ ((n + 7 : Nat) : Int) then
      if kK l0 = 8 ∧ l0 < ((n + 9 : Nat) : Int) then
      let h_14 := hput r67 l0 10 (((n + 7 : Nat) : Int))
      if kK ((n + 9 : Nat) : Int) = 21 ∧ kL ((n + 9 : Nat) : Int) = 576 then
      let h_15 := hnew h_14 ((n + 9 : Nat) : Int)
      if kK l0 = 8 ∧ l0 < ((n + 10 : Nat) : Int) then
      let h_16 := hput h_15 l0 11 (((n + 9 : Nat) : Int))
      if kK ((n + 10 : Nat) : Int) = 21 ∧ kL ((n + 10 : Nat) : Int) = 576 then
      let h_17 := hnew h_16 ((n + 10 : Nat) : Int)
      if kK l0 = 8 ∧ l0 < ((n + 11 : Nat) : Int) then
      let h_18 := hput h_17 l0 12 (((n + 10 : Nat) : Int))
      if kK ((n + 11 : Nat) : Int) = 21 ∧ kL ((n + 11 : Nat) : Int) = 1024 then
      let h_19 := hnew h_18 ((n + 11 : Nat) : Int)
      if kK l0 = 8 ∧ l0 < ((n + 12 : Nat) : Int) then
      let h_20 := hput h_19 l0 13 (((n + 11 : Nat) : Int))
      some h_20
      else none
      else none
      else none
      else none
      else none
      else none
      else none
      else none)
    else none
    else none
    else none)
  else none
  else none
  else none
  else none
  else none
  else none
  else none
  else none
  else none
  else none
  else none
  else none
def WF_new (l0 : Int) (n : Nat) (h : Hp) : Option Hp :=
  if (0 : Int) ≤ l0 then
  if kK ((n : Nat) : Int) = 21 ∧ kL ((n : Nat) : Int) = 1024 then
  let h_1 := hnew h ((n : Nat) : Int)
  if kK l0 = 9 ∧ l0 < ((n + 1 : Nat) : Int) then
  let h_2 := hput h_1 l0 4 (((n : Nat) : Int))
  if kK ((n + 1 : Nat) : Int) = 21 ∧ kL ((n + 1 : Nat) : Int) = 1024 then
  let h_3 := hnew h_2 ((n + 1 : Nat) : Int)
  if kK l0 = 9 ∧ l0 < ((n + 2 : Nat) : Int) then
  let h_4 := hput h_3 l0 5 (((n + 1 : Nat) : Int))
  if kK ((n + 2 : Nat) : Int) = 22 ∧ kL ((n + 2 : Nat) : Int) = 1024 then
  let h_5 := hnew h_4 ((n + 2 : Nat) : Int)
  if kK l0 = 9 ∧ l0 < ((n + 3 : Nat) : Int) then
  let h_6 := hput h_5 l0 6 (((n + 2 : Nat) : Int))
  some h_6
  else none
  else none
  else none
  else none
  else none
  else none
  else none
def SR_new (l0 : Int) (n : Nat) (h : Hp) : Option Hp :=
  if (0 : Int) ≤ l0 then
  if kK ((n : Nat) : Int) = 0 then
  let h_1 := hnew h ((n : Nat) : Int)
  ob (By_new (((n : Nat) : Int)) 0 (n + 1) h_1) (fun r10 =>
    if (0 : Int) ≤ ((n : Nat) : Int) then
    if kK l0 = 6 ∧ l0 < ((n + 2 : Nat) : Int) then
    let h_2 := hput r10 l0 0 (((n : Nat) : Int))
    if kK ((n + 2 : Nat) : Int) = 21 ∧ kL ((n + 2 : Nat) : Int) = 40 then
    let h_3 := hnew h_2 ((n + 2 : Nat) : Int)
    if kK l0 = 6 ∧ l0 < ((n + 3 : Nat) : Int) then
    let h_4 := hput h_3 l0 5 (((n + 2 : Nat) : Int))
    if kK ((n + 3 : Nat) : Int) = 21 ∧ kL ((n + 3 : Nat) : Int) = 40 then
    let h_5 := hnew h_4 ((n + 3 : Nat) : Int)
    if kK l0 = 6 ∧ l0 < ((n + 4 : Nat) : Int) then
    let h_6 := hput h_5 l0 6 (((n + 3 : Nat) : Int))
    if kK ((n + 4 : Nat) : Int) = 21 ∧ kL ((n + 4 : Nat) : Int) = 40 then
    let h_7 := hnew h_6 ((n + 4 : Nat) : Int)
    if kK l0 = 6 ∧ l0 < ((n + 5 : Nat) : Int) then
    let h_8 := hput h_7 l0 7 (((n + 4 : Nat) : Int))
    some h_8
    else none
    else none
    else none
    else none
    else none
    else none
    else none
    else none)
  else none
  else none
def X_new (l0 : Int) (n : Nat) (h : Hp) : Option Hp :=
  if (0 : Int) ≤ l0 then
  if kK ((n : Nat) : Int) = 0 then
  let h_1 := hnew h ((n : Nat) : Int)
  ob (By_new (((n : Nat) : Int)) 400 (n + 1) h_1) (fun r12 =>
    if (0 : Int) ≤ ((n : Nat) : Int) then
    if kK l0 = 10 ∧ l0 < ((n + 2 : Nat) : Int) then
    let h_2 := hput r12 l0 0 (((n : Nat) : Int))
    if kK ((n + 2 : Nat) : Int) = 0 then
    let h_3 := hnew h_2 ((n + 2 : Nat) : Int)
    ob (By_new (((n + 2 : Nat) : Int)) 2048 (n + 3) h_3) (fun r26 =>
      if (0 : Int) ≤ ((n + 2 : Nat) : Int) then
      if kK l0 = 10 ∧ l0 < ((n + 4 : Nat) : Int) then
      let h_4 := hput r26 l0 1 (((n + 2 : Nat) : Int))
      if kK ((n + 4 : Nat) : Int) = 0 then
      let h_5 := hnew h_4 ((n + 4 : Nat) : Int)
      ob (By_new (((n + 4 : Nat) : Int)) 8 (n + 5) h_5) (fun r39 =>
        if (0 : Int) ≤ ((n + 4 : Nat) : Int) then
        if kK l0 = 10 ∧ l0 < ((n + 6 : Nat) : Int) then
        let h_6 := hput r39 l0 2 (((n + 4 : Nat) : Int))
        if kK ((n + 6 : Nat) : Int) = 4 then
        let h_7 := hnew h_6 ((n + 6 : Nat) : Int)
        ob (GR_new (((n + 6 : Nat) : Int)) (n + 7) h_7) (fun r50 =>
          if (0 : Int) ≤ ((n + 6 : Nat) : Int) then
          if kK l0 = 10 ∧ l0 < ((n + 9 : Nat) : Int) then
          let h_8 := hput r50 l0 3 (((n + 6 : Nat) : Int))
          if kK ((n + 9 : Nat) : Int) = 6 then
          let h_9 := hnew h_8 ((n + 9 : Nat) : Int)
          ob (SR_new (((n + 9 : Nat) : Int)) (n + 10) h_9) (fun r61 =>
            if (0 : Int) ≤ ((n + 9 : Nat) : Int) then
            if kK l0 = 10 ∧ l0 < ((n + 15 : Nat) : Int) then
            let h_10 := hput r61 l0 4 (((n + 9 : Nat) : Int))
            if kK ((n + 15 : Nat) : Int) = 2 then
            let h_11 := hnew h_10 ((n + 15 : Nat) : Int)
            if kK l0 = 10 ∧ l0 < ((n + 16 : Nat) : Int) then
            ob (Co_new (((n + 15 : Nat) : Int)) (h_11 l0 2) (n + 16) h_11) (fun r76 =>
              if (0 : Int) ≤ ((n + 15 : Nat) : Int) then
              let h_12 := hput r76 l0 5 (((n + 15 : Nat) : Int))
              if kK ((n + 16 : Nat) : Int) = 7 then
              let h_13 := hnew h_12 ((n + 16 : Nat) : Int)
              if kK l0 = 10 ∧ l0 < ((n + 17 : Nat) : Int) then
              ob (Su_new (((n + 16 : Nat) : Int)) (h_13 l0 2) (n + 17) h_13) (fun r91 =>
                if (0 : Int) ≤ ((n + 16 : Nat) : Int) then
                let h_14 := hput r91 l0 6 (((n + 16 : Nat) : Int))
                if kK ((n + 17 : Nat) : Int) = 5 then
                let h_15 := hnew h_14 ((n + 17 : Nat) : Int)
                ob (Ms_new (((n + 17 : Nat) : Int)) (n + 18) h_15) (fun r102 =>
                  if (0 : Int) ≤ ((n + 17 : Nat) : Int) then
                  if kK l0 = 10 ∧ l0 < ((n + 20 : Nat) : Int) then
                  let h_16 := hput r102 l0 7 (((n + 17 : Nat) : Int))
                  if kK ((n + 20 : Nat) : Int) = 1 then
                  let h_17 := hnew h_16 ((n + 20 : Nat) : Int)
                  ob (Ch_new (((n + 20 : Nat) : Int)) (n + 21) h_17) (fun r113 =>
                    if (0 : Int) ≤ ((n + 20 : Nat) : Int) then
                    if kK l0 = 10 ∧ l0 < ((n + 37 : Nat) : Int) then
                    let h_18 := hput r113 l0 8 (((n + 20 : Nat) : Int))
                    if kK ((n + 37 : Nat) : Int) = 1 then
                    let h_19 := hnew h_18 ((n + 37 : Nat) : Int)
                    ob (Ch_new (((n + 37 : Nat) : Int)) (n + 38) h_19) (fun r124 =>
                      if (0 : Int) ≤ ((n + 37 : Nat) : Int) then
                      if kK l0 = 10 ∧ l0 < ((n + 54 : Nat) : Int) then
                      let h_20 := hput r124 l0 9 (((n + 37 : Nat) : Int))
                      if kK ((n + 54 : Nat) : Int) = 9 then
                      let h_21 := hnew h_20 ((n + 54 : Nat) : Int)
                      ob (WF_new (((n + 54 : Nat) : Int)) (n + 55) h_21) (fun r135 =>
                        if (0 : Int) ≤ ((n + 54 : Nat) : Int) then
                        if kK l0 = 10 ∧ l0 < ((n + 58 : Nat) : Int) then
                        let h_22 := hput r135 l0 10 (((n + 54 : Nat) : Int))
                        if kK ((n + 58 : Nat) : Int) = 8 then
                        let h_23 := hnew h_22 ((n + 58 : Nat) : Int)
                        ob (Wy_new (((n + 58 : Nat) : Int)) (n + 59) h_23) (fun r146 =>
                          if (0 : Int) ≤ ((n + 58 : Nat) : Int) then
                          if kK l0 = 10 ∧ l0 < ((n + 71 : Nat) : Int) then
                          let h_24 := hput r146 l0 11 (((n + 58 : Nat) : Int))
                          if kK ((n + 71 : Nat) : Int) = 8 then
                          let h_25 := hnew h_24 ((n + 71 : Nat) : Int)
                          ob (Wy_new (((n + 71 : Nat) : Int)) (n + 72) h_25) (fun r157 =>
                            if (0 : Int) ≤ ((n + 71 : Nat) : Int) then
                            if kK l0 = 10 ∧ l0 < ((n + 84 : Nat) : Int) then
                            let h_26 := hput r157 l0 12 (((n + 71 : Nat) : Int))
                            if kK ((n + 84 : Nat) : Int) = 24 ∧ kL ((n + 84 : Nat) : Int) = 6 then
                            if ∀ i : Nat, i < 6 → kK ((n + 84 + 1 + i : Nat) : Int) = 21 ∧ kL ((n + 84 + 1 + i : Nat) : Int) = 256 then
                            let h_27 := hmul h_26 ((n + 84 : Nat) : Int) 6
                            if kK l0 = 10 ∧ l0 < ((n + 91 : Nat) : Int) then
                            let h_28 := hput h_27 l0 13 (((n + 84 : Nat) : Int))
                            if kK ((n + 91 : Nat) : Int) = 21 ∧ kL ((n + 91 : Nat) : Int) = 6 then
                            let h_29 := hnew h_28 ((n + 91 : Nat) : Int)
                            if kK l0 = 10 ∧ l0 < ((n + 92 : Nat) : Int) then
                            let h_30 := hput h_29 l0 14 (((n + 91 : Nat) : Int))
                            if kK ((n + 92 : Nat) : Int) = 3 then
                            let h_31 := hnew h_30 ((n + 92 : Nat) : Int)
                            ob (Gr_new (((n + 92 : Nat) : Int)) (n + 93) h_31) (fun r189 =>
                              if (0 : Int) ≤ ((n + 92 : Nat) : Int) then
                              if kK l0 = 10 ∧ l0 < ((n + 106 : Nat) : Int) then
                              let h_32 := hput r189 l0 15 (((n + 92 : Nat) : Int))
                              if kK ((n + 106 : Nat) : Int) = 3 then
                              let h_33 := hnew h_32 ((n + 106 : Nat) : Int)
                              ob (Gr_new (((n + 106 : Nat) : Int)) (n + 107) h_33) (fun r200 =>
                                if (0 : Int) ≤ ((n + 106 : Nat) : Int) then
                                if kK l0 = 10 ∧ l0 < ((n + 120 : Nat) : Int) then
                                let h_34 := hput r200 l0 16 (((n + 106 : Nat) : Int))
                                let h_35 := hput h_34 l0 17 0
                                some h_35
                                else none
                                else none)
                              else none
                              else none
                              else none)
                            else none
                            else none
                            else none
                            else none
                            else none
                            else none
                            else none
                            else none)
                          else none
                          else none
                          else none)
                        else none
                        else none
                        else none)
                      else none
                      else none
                      else none)
                    else none
                    else none
                    else none)
                  else none
                  else none
                  else none)
                else none
                else none)
              else none
              else none
              else none)
            else none
            else none
            else none
            else none)
          else none
          else none
          else none)
        else none
        else none
        else none)
      else none
      else none
      else none)
    else none
    else none
    else none)
  else none
  else none
def M_new_j420 (l0 l1 l2 l3 l4 l5 : Int) (h : Hp) : Option ((Int × Int × Hp) ⊕ (Int × Hp)) :=
  some (.inl (l1, w32 (l5 + 1), h))
def M_new_j372 (l0 l1 l2 l3 l4 l5 : Int) (h : Hp) : Option ((Int × Int × Hp) ⊕ (Int × Hp)) :=
  if kK l0 = 11 then
  ob (M_place l2 l3 l4 l5) (fun r382 =>
    if kK (h l0 36) = 21 ∧ (0 : Int) ≤ r382 ∧ r382 < kL (h l0 36) then
    let h_1 := hput h (h l0 36) r382 l1
    if kK (h_1 l0 37) = 21 ∧ (0 : Int) ≤ l1 ∧ l1 < kL (h_1 l0 37) then
    let h_2 := hput h_1 (h_1 l0 37) l1 l2
    if kK (h_2 l0 38) = 21 ∧ (0 : Int) ≤ l1 ∧ l1 < kL (h_2 l0 38) then
    let h_3 := hput h_2 (h_2 l0 38) l1 l3
    if kK (h_3 l0 39) = 21 ∧ (0 : Int) ≤ l1 ∧ l1 < kL (h_3 l0 39) then
    let h_4 := hput h_3 (h_3 l0 39) l1 l4
    if kK (h_4 l0 40) = 21 ∧ (0 : Int) ≤ l1 ∧ l1 < kL (h_4 l0 40) then
    let h_5 := hput h_4 (h_4 l0 40) l1 l5
    M_new_j420 l0 (w32 (l1 + 1)) l2 l3 l4 l5 h_5
    else none
    else none
    else none
    else none
    else none)
  else none
def M_new_j354 (l0 l1 l2 l3 l4 l5 s0 s1 : Int) (h : Hp) : Option ((Int × Int × Hp) ⊕ (Int × Hp)) :=
  if s0 < s1 then
    some (.inr (l1, h))
  else
    if l4 = (-1) then
      M_new_j372 l0 l1 l2 l3 l4 l5 h
    else
      if l2 ≤ l4 then
        M_new_j372 l0 l1 l2 l3 l4 l5 h
      else
        M_new_j420 l0 l1 l2 l3 l4 l5 h
def M_new_L341 (l0 l2 l3 l4 : Int) (l1 l5 : Int) (h : Hp) : Option ((Int × Int × Hp) ⊕ (Int × Hp)) :=
  M_new_j354 l0 l1 l2 l3 l4 l5 ((if l4 = (-1) then (-1) else l3)) l5 h
def M_new_j339 (l0 l1 l2 l3 l4 s0 : Int) (h : Hp) : Option ((Int × Int × Hp) ⊕ (Int × Hp)) :=
  ob (loopN (fun q => M_new_L341 l0 l2 l3 l4 q.1 q.2.1 q.2.2) LN (l1, s0, h)) (fun e426 =>
    some (.inl (e426.1, w32 (l4 + 1), e426.2)))
def M_new_L321 (l0 l2 l3 : Int) (l1 l4 : Int) (h : Hp) : Option ((Int × Int × Hp) ⊕ (Int × Hp)) :=
  if l3 < l4 then
    some (.inr (l1, h))
  else
    M_new_j339 l0 l1 l2 l3 l4 ((if l4 = (-1) then (-1) else l4)) h
def M_new_L312 (l0 l2 : Int) (l1 l3 : Int) (h : Hp) : Option ((Int × Int × Hp) ⊕ (Int × Hp)) :=
  if 8 < l3 then
    some (.inr (l1, h))
  else
    ob (loopN (fun q => M_new_L321 l0 l2 l3 q.1 q.2.1 q.2.2) LN (l1, (-1), h)) (fun e432 =>
      some (.inl (e432.1, w32 (l3 + 1), e432.2)))
def M_new_L304 (l0 : Int) (l1 l2 : Int) (h : Hp) : Option ((Int × Int × Hp) ⊕ (Hp)) :=
  if 8 < l2 then
    some (.inr h)
  else
    ob (loopN (fun q => M_new_L312 l0 l2 q.1 q.2.1 q.2.2) LN (l1, l2, h)) (fun e438 =>
      some (.inl (e438.1, w32 (l2 + 1), e438.2)))
def M_new_t (l0 : Int) (h : Hp) : Option Hp :=
  ob (loopN (fun q => M_new_L304 l0 q.1 q.2.1 q.2.2) LN (0, 0, h)) (fun e444 =>
    if kK l0 = 11 then
    ob (M_forgets l0 e444) (fun r445 =>
      some r445)
    else none)
def M_new (l0 : Int) (n : Nat) (h : Hp) : Option Hp :=
  if (0 : Int) ≤ l0 then
  if kK ((n : Nat) : Int) = 21 ∧ kL ((n : Nat) : Int) = 18 then
  let h_1 := hnew h ((n : Nat) : Int)
  if kK l0 = 11 ∧ l0 < ((n + 1 : Nat) : Int) then
  let h_2 := hput h_1 l0 4 (((n : Nat) : Int))
  if kK ((n + 1 : Nat) : Int) = 21 ∧ kL ((n + 1 : Nat) : Int) = 80 then
  let h_3 := hnew h_2 ((n + 1 : Nat) : Int)
  if kK l0 = 11 ∧ l0 < ((n + 2 : Nat) : Int) then
  let h_4 := hput h_3 l0 5 (((n + 1 : Nat) : Int))
  if kK ((n + 2 : Nat) : Int) = 21 ∧ kL ((n + 2 : Nat) : Int) = 80 then
  let h_5 := hnew h_4 ((n + 2 : Nat) : Int)
  if kK l0 = 11 ∧ l0 < ((n + 3 : Nat) : Int) then
  let h_6 := hput h_5 l0 6 (((n + 2 : Nat) : Int))
  if kK ((n + 3 : Nat) : Int) = 21 ∧ kL ((n + 3 : Nat) : Int) = 80 then
  let h_7 := hnew h_6 ((n + 3 : Nat) : Int)
  if kK l0 = 11 ∧ l0 < ((n + 4 : Nat) : Int) then
  let h_8 := hput h_7 l0 7 (((n + 3 : Nat) : Int))
  if kK ((n + 4 : Nat) : Int) = 21 ∧ kL ((n + 4 : Nat) : Int) = 80 then
  let h_9 := hnew h_8 ((n + 4 : Nat) : Int)
  if kK l0 = 11 ∧ l0 < ((n + 5 : Nat) : Int) then
  let h_10 := hput h_9 l0 8 (((n + 4 : Nat) : Int))
  if kK ((n + 5 : Nat) : Int) = 21 ∧ kL ((n + 5 : Nat) : Int) = 80 then
  let h_11 := hnew h_10 ((n + 5 : Nat) : Int)
  if kK l0 = 11 ∧ l0 < ((n + 6 : Nat) : Int) then
  let h_12 := hput h_11 l0 9 (((n + 5 : Nat) : Int))
  if kK ((n + 6 : Nat) : Int) = 21 ∧ kL ((n + 6 : Nat) : Int) = 80 then
  let h_13 := hnew h_12 ((n + 6 : Nat) : Int)
  if kK l0 = 11 ∧ l0 < ((n + 7 : Nat) : Int) then
  let h_14 := hput h_13 l0 10 (((n + 6 : Nat) : Int))
  if kK ((n + 7 : Nat) : Int) = 21 ∧ kL ((n + 7 : Nat) : Int) = 40 then
  let h_15 := hnew h_14 ((n + 7 : Nat) : Int)
  if kK l0 = 11 ∧ l0 < ((n + 8 : Nat) : Int) then
  let h_16 := hput h_15 l0 13 (((n + 7 : Nat) : Int))
  if kK ((n + 8 : Nat) : Int) = 23 ∧ kL ((n + 8 : Nat) : Int) = 40 then
  let h_17 := hnew h_16 ((n + 8 : Nat) : Int)
  if kK l0 = 11 ∧ l0 < ((n + 9 : Nat) : Int) then
  let h_18 := hput h_17 l0 14 (((n + 8 : Nat) : Int))
  if kK ((n + 9 : Nat) : Int) = 21 ∧ kL ((n + 9 : Nat) : Int) = 40 then
  let h_19 := hnew h_18 ((n + 9 : Nat) : Int)
  if kK l0 = 11 ∧ l0 < ((n + 10 : Nat) : Int) then
  let h_20 := hput h_19 l0 15 (((n + 9 : Nat) : Int))
  if kK ((n + 10 : Nat) : Int) = 21 ∧ kL ((n + 10 : Nat) : Int) = 8 then
  let h_21 := hnew h_20 ((n + 10 : Nat) : Int)
  if kK l0 = 11 ∧ l0 < ((n + 11 : Nat) : Int) then
  let h_22 := hput h_21 l0 16 (((n + 10 : Nat) : Int))
  if kK ((n + 11 : Nat) : Int) = 21 ∧ kL ((n + 11 : Nat) : Int) = 8 then
  let h_23 := hnew h_22 ((n + 11 : Nat) : Int)
  if kK l0 = 11 ∧ l0 < ((n + 12 : Nat) : Int) then
  let h_24 := hput h_23 l0 17 (((n + 11 : Nat) : Int))
  if kK ((n + 12 : Nat) : Int) = 21 ∧ kL ((n + 12 : Nat) : Int) = 8 then
  let h_25 := hnew h_24 ((n + 12 : Nat) : Int)
  if kK l0 = 11 ∧ l0 < ((n + 13 : Nat) : Int) then
  let h_26 := hput h_25 l0 18 (((n + 12 : Nat) : Int))
  if kK ((n + 13 : Nat) : Int) = 20 ∧ kL ((n + 13 : Nat) : Int) = 400 then
  let h_27 := hnew h_26 ((n + 13 : Nat) : Int)
  if kK l0 = 11 ∧ l0 < ((n + 14 : Nat) : Int) then
  let h_28 := hput h_27 l0 19 (((n + 13 : Nat) : Int))
  if kK ((n + 14 : Nat) : Int) = 21 ∧ kL ((n + 14 : Nat) : Int) = 5 then
  let h_29 := hnew h_28 ((n + 14 : Nat) : Int)
  if kK l0 = 11 ∧ l0 < ((n + 15 : Nat) : Int) then
  let h_30 := hput h_29 l0 21 (((n + 14 : Nat) : Int))
  let h_31 := hput h_30 l0 28 ((-1))
  if kK ((n + 15 : Nat) : Int) = 21 ∧ kL ((n + 15 : Nat) : Int) = 8 then
  let h_32 := hnew h_31 ((n + 15 : Nat) : Int)
  if kK l0 = 11 ∧ l0 < ((n + 16 : Nat) : Int) then
  let h_33 := hput h_32 l0 31 (((n + 15 : Nat) : Int))
  if kK ((n + 16 : Nat) : Int) = 21 ∧ kL ((n + 16 : Nat) : Int) = 8 then
  let h_34 := hnew h_33 ((n + 16 : Nat) : Int)
  if kK l0 = 11 ∧ l0 < ((n + 17 : Nat) : Int) then
  let h_35 := hput h_34 l0 33 (((n + 16 : Nat) : Int))
  if kK ((n + 17 : Nat) : Int) = 21 ∧ kL ((n + 17 : Nat) : Int) = 10000 then
  let h_36 := hnew h_35 ((n + 17 : Nat) : Int)
  if kK l0 = 11 ∧ l0 < ((n + 18 : Nat) : Int) then
  let h_37 := hput h_36 l0 36 (((n + 17 : Nat) : Int))
  if kK ((n + 18 : Nat) : Int) = 21 ∧ kL ((n + 18 : Nat) : Int) = 540 then
  let h_38 := hnew h_37 ((n + 18 : Nat) : Int)
  if kK l0 = 11 ∧ l0 < ((n + 19 : Nat) : Int) then
  let h_39 := hput h_38 l0 37 (((n + 18 : Nat) : Int))
  if kK ((n + 19 : Nat) : Int) = 21 ∧ kL ((n + 19 : Nat) : Int) = 540 then
  let h_40 := hnew h_39 ((n + 19 : Nat) : Int)
  if kK l0 = 11 ∧ l0 < ((n + 20 : Nat) : Int) then
  let h_41 := hput h_40 l0 38 (((n + 19 : Nat) : Int))
  if kK ((n + 20 : Nat) : Int) = 21 ∧ kL ((n + 20 : Nat) : Int) = 540 then
  let h_42 := hnew h_41 ((n + 20 : Nat) : Int)
  if kK l0 = 11 ∧ l0 < ((n + 21 : Nat) : Int) then
  let h_43 := hput h_42 l0 39 (((n + 20 : Nat) : Int))
  if kK ((n + 21 : Nat) : Int) = 21 ∧ kL ((n + 21 : Nat) : Int) = 540 then
  let h_44 := hnew h_43 ((n + 21 : Nat) : Int)
  if kK l0 = 11 ∧ l0 < ((n + 22 : Nat) : Int) then
  let h_45 := hput h_44 l0 40 (((n + 21 : Nat) : Int))
  if kK ((n + 22 : Nat) : Int) = 22 ∧ kL ((n + 22 : Nat) : Int) = 43200 then
  let h_46 := hnew h_45 ((n + 22 : Nat) : Int)
  if kK l0 = 11 ∧ l0 < ((n + 23 : Nat) : Int) then
  let h_47 := hput h_46 l0 41 (((n + 22 : Nat) : Int))
  if kK ((n + 23 : Nat) : Int) = 21 ∧ kL ((n + 23 : Nat) : Int) = 43200 then
  let h_48 := hnew h_47 ((n + 23 : Nat) : Int)
  if kK l0 = 11 ∧ l0 < ((n + 24 : Nat) : Int) then
  let h_49 := hput h_48 l0 42 (((n + 23 : Nat) : Int))
  if kK ((n + 24 : Nat) : Int) = 21 ∧ kL ((n + 24 : Nat) : Int) = 43200 then
  let h_50 := hnew h_49 ((n + 24 : Nat) : Int)
  if kK l0 = 11 ∧ l0 < ((n + 25 : Nat) : Int) then
  let h_51 := hput h_50 l0 43 (((n + 24 : Nat) : Int))
  if kK ((n + 25 : Nat) : Int) = 23 ∧ kL ((n + 25 : Nat) : Int) = 43200 then
  let h_52 := hnew h_51 ((n + 25 : Nat) : Int)
  if kK l0 = 11 ∧ l0 < ((n + 26 : Nat) : Int) then
  let h_53 := hput h_52 l0 44 (((n + 25 : Nat) : Int))
  if kK ((n + 26 : Nat) : Int) = 21 ∧ kL ((n + 26 : Nat) : Int) = 128 then
  let h_54 := hnew h_53 ((n + 26 : Nat) : Int)
  if kK l0 = 11 ∧ l0 < ((n + 27 : Nat) : Int) then
  let h_55 := hput h_54 l0 49 (((n + 26 : Nat) : Int))
  if kK ((n + 27 : Nat) : Int) = 21 ∧ kL ((n + 27 : Nat) : Int) = 128 then
  let h_56 := hnew h_55 ((n + 27 : Nat) : Int)
  if kK l0 = 11 ∧ l0 < ((n + 28 : Nat) : Int) then
  let h_57 := hput h_56 l0 50 (((n + 27 : Nat) : Int))
  if kK ((n + 28 : Nat) : Int) = 21 ∧ kL ((n + 28 : Nat) : Int) = 128 then
  let h_58 := hnew h_57 ((n + 28 : Nat) : Int)
  if kK l0 = 11 ∧ l0 < ((n + 29 : Nat) : Int) then
  let h_59 := hput h_58 l0 51 (((n + 28 : Nat) : Int))
  if kK ((n + 29 : Nat) : Int) = 21 ∧ kL ((n + 29 : Nat) : Int) = 128 then
  let h_60 := hnew h_59 ((n + 29 : Nat) : Int)
  if kK l0 = 11 ∧ l0 < ((n + 30 : Nat) : Int) then
  let h_61 := hput h_60 l0 52 (((n + 29 : Nat) : Int))
  if kK ((n + 30 : Nat) : Int) = 21 ∧ kL ((n + 30 : Nat) : Int) = 1536 then
  let h_62 := hnew h_61 ((n + 30 : Nat) : Int)
  if kK l0 = 11 ∧ l0 < ((n + 31 : Nat) : Int) then
  let h_63 := hput h_62 l0 53 (((n + 30 : Nat) : Int))
  if kK ((n + 31 : Nat) : Int) = 21 ∧ kL ((n + 31 : Nat) : Int) = 8 then
  let h_64 := hnew h_63 ((n + 31 : Nat) : Int)
  if kK l0 = 11 ∧ l0 < ((n + 32 : Nat) : Int) then
  let h_65 := hput h_64 l0 54 (((n + 31 : Nat) : Int))
  if kK ((n + 32 : Nat) : Int) = 21 ∧ kL ((n + 32 : Nat) : Int) = 8 then
  let h_66 := hnew h_65 ((n + 32 : Nat) : Int)
  if kK l0 = 11 ∧ l0 < ((n + 33 : Nat) : Int) then
  let h_67 := hput h_66 l0 55 (((n + 32 : Nat) : Int))
  if kK ((n + 33 : Nat) : Int) = 20 ∧ kL ((n + 33 : Nat) : Int) = 8000 then
  let h_68 := hnew h_67 ((n + 33 : Nat) : Int)
  if kK l0 = 11 ∧ l0 < ((n + 34 : Nat) : Int) then
  let h_69 := hput h_68 l0 56 (((n + 33 : Nat) : Int))
  if kK ((n + 34 : Nat) : Int) = 21 ∧ kL ((n + 34 : Nat) : Int) = 120 then
  let h_70 := hnew h_69 ((n + 34 : Nat) : Int)
  if kK l0 = 11 ∧ l0 < ((n + 35 : Nat) : Int) then
  let h_71 := hput h_70 l0 59 (((n + 34 : Nat) : Int))
  M_new_t l0 h_71
  else none
  else none
  else none
  else none
  else none
  else none
  else none
  else none
  else none
  else none
  else none
  else none
  else none
  else none
  else none
  else none
  else none
  else none
  else none
  else none
  else none
  else none
  else none
  else none
  else none
  else none
  else none
  else none
  else none
  else none
  else none
  else none
  else none
  else none
  else none
  else none
  else none
  else none
  else none
  else none
  else none
  else none
  else none
  else none
  else none
  else none
  else none
  else none
  else none
  else none
  else none
  else none
  else none
  else none
  else none
  else none
  else none
  else none
  else none
  else none
  else none
  else none
  else none
  else none
  else none
  else none
  else none
  else none
  else none
  else none
  else none
