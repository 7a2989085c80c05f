/-! the law's loop as a function of the script -/
def Lw_j1356 (d : Nat) (sc : Int → Int) (L : Int) (l0 l1 l2 l3 : Int) (h : Hp) : Option ((Int × Hp) ⊕ (Hp)) :=
  some (.inl (w32 (l3 + 8), h))
def Lw_L18 (d : Nat) (sc : Int → Int) (L : Int) (l0 l1 l2 : Int) (l3 : Int) (h : Hp) : Option ((Int × Hp) ⊕ (Hp)) :=
  if l0 = -5 then
  if w32 (L - 8) < l3 then
    some (.inr h)
  else
    if (0 : Int) ≤ l3 ∧ l3 < L then
    if i_and (sc l3) 63 = 0 then
      if (0 : Int) ≤ w32 (l3 + 1) ∧ w32 (l3 + 1) < L then
      if (0 : Int) ≤ w32 (l3 + 2) ∧ w32 (l3 + 2) < L then
      if (0 : Int) ≤ w32 (l3 + 3) ∧ w32 (l3 + 3) < L then
      if (0 : Int) ≤ w32 (l3 + 4) ∧ w32 (l3 + 4) < L then
      if (0 : Int) ≤ w32 (l3 + 5) ∧ w32 (l3 + 5) < L then
      if kK l1 = 10 then
      ob (X_feed l1 (sc (w32 (l3 + 1))) (sc (w32 (l3 + 2))) (sc (w32 (l3 + 3))) (sc (w32 (l3 + 4))) (sc (w32 (l3 + 5))) h) (fun r206 =>
        if kK l2 = 11 then
        ob (M_feed l2 (sc (w32 (l3 + 1))) (sc (w32 (l3 + 2))) (sc (w32 (l3 + 3))) (sc (w32 (l3 + 4))) (sc (w32 (l3 + 5))) r206.2) (fun r235 =>
          if r206.1 = r235.1 then
            Lw_j1356 d sc L l0 l1 l2 l3 r235.2
          else
            none)
        else none)
      else none
      else none
      else none
      else none
      else none
      else none
    else
      if i_and (sc l3) 63 = 1 then
        if (0 : Int) ≤ w32 (l3 + 1) ∧ w32 (l3 + 1) < L then
        if kK l1 = 10 then
        ob (X_end l1 (sc (w32 (l3 + 1))) h) (fun r249 =>
          if kK l2 = 11 then
          ob (M_end l2 (sc (w32 (l3 + 1))) r249.2) (fun r258 =>
            if r249.1 = r258.1 then
              Lw_j1356 d sc L l0 l1 l2 l3 r258.2
            else
              none)
          else none)
        else none
        else none
      else
        if i_and (sc l3) 63 = 2 then
          if kK l1 = 10 then
          ob (X_grammar l1 h) (fun r267 =>
            if kK l2 = 11 then
            ob (M_grammar (d - 1) l2 r267.2) (fun r271 =>
              if r267.1 = r271.1 then
                Lw_j1356 d sc L l0 l1 l2 l3 r271.2
              else
                none)
            else none)
          else none
        else
          if i_and (sc l3) 63 = 3 then
            if (0 : Int) ≤ w32 (l3 + 1) ∧ w32 (l3 + 1) < L then
            if kK l1 = 10 then
            ob (X_fault l1 (sc (w32 (l3 + 1))) h) (fun r285 =>
              if kK l2 = 11 then
              ob (M_fault l2 (sc (w32 (l3 + 1))) h) (fun r294 =>
                if r285 = r294 then
                  Lw_j1356 d sc L l0 l1 l2 l3 h
                else
                  none)
              else none)
            else none
            else none
          else
            if i_and (sc l3) 63 = 4 then
              if kK l1 = 10 then
              ob (X_say l1 h) (fun r303 =>
                if kK l2 = 11 then
                ob (M_say l2 r303.2) (fun r307 =>
                  if r303.1 = r307.1 then
                    Lw_j1356 d sc L l0 l1 l2 l3 r307.2
                  else
                    none)
                else none)
              else none
            else
              if i_and (sc l3) 63 = 5 then
                if (0 : Int) ≤ w32 (l3 + 1) ∧ w32 (l3 + 1) < L then
                if kK l1 = 10 then
                ob (X_count l1 (sc (w32 (l3 + 1))) h) (fun r321 =>
                  if kK l2 = 11 then
                  ob (M_count l2 (sc (w32 (l3 + 1))) h) (fun r330 =>
                    if r321 = r330 then
                      Lw_j1356 d sc L l0 l1 l2 l3 h
                    else
                      none)
                  else none)
                else none
                else none
              else
                if i_and (sc l3) 63 = 6 then
                  if (0 : Int) ≤ w32 (l3 + 1) ∧ w32 (l3 + 1) < L then
                  if (0 : Int) ≤ w32 (l3 + 2) ∧ w32 (l3 + 2) < L then
                  if kK l1 = 10 then
                  ob (X_tree l1 (sc (w32 (l3 + 1))) (sc (w32 (l3 + 2))) h) (fun r349 =>
                    if kK l2 = 11 then
                    ob (M_tree l2 (sc (w32 (l3 + 1))) (sc (w32 (l3 + 2))) h) (fun r363 =>
                      if r349 = r363 then
                        Lw_j1356 d sc L l0 l1 l2 l3 h
                      else
                        none)
                    else none)
                  else none
                  else none
                  else none
                else
                  if i_and (sc l3) 63 = 7 then
                    if (0 : Int) ≤ w32 (l3 + 1) ∧ w32 (l3 + 1) < L then
                    if (0 : Int) ≤ w32 (l3 + 2) ∧ w32 (l3 + 2) < L then
                    if (0 : Int) ≤ w32 (l3 + 3) ∧ w32 (l3 + 3) < L then
                    if kK l1 = 10 then
                    ob (X_node l1 (sc (w32 (l3 + 1))) (sc (w32 (l3 + 2))) (sc (w32 (l3 + 3))) h) (fun r387 =>
                      if kK l2 = 11 then
                      ob (M_node l2 (sc (w32 (l3 + 1))) (sc (w32 (l3 + 2))) (sc (w32 (l3 + 3))) h) (fun r406 =>
                        if r387 = r406 then
                          Lw_j1356 d sc L l0 l1 l2 l3 h
                        else
                          none)
                      else none)
                    else none
                    else none
                    else none
                    else none
                  else
                    if i_and (sc l3) 63 = 8 then
                      if (0 : Int) ≤ w32 (l3 + 1) ∧ w32 (l3 + 1) < L then
                      if (0 : Int) ≤ w32 (l3 + 2) ∧ w32 (l3 + 2) < L then
                      if kK l1 = 10 then
                      ob (X_out l1 (sc (w32 (l3 + 1))) (sc (w32 (l3 + 2))) h) (fun r425 =>
                        if kK l2 = 11 then
                        ob (M_out l2 (sc (w32 (l3 + 1))) (sc (w32 (l3 + 2))) r425.2) (fun r439 =>
                          if r425.1 = r439.1 then
                            Lw_j1356 d sc L l0 l1 l2 l3 r439.2
                          else
                            none)
                        else none)
                      else none
                      else none
                      else none
                    else
                      if i_and (sc l3) 63 = 9 then
                        if (0 : Int) ≤ w32 (l3 + 1) ∧ w32 (l3 + 1) < L then
                        if (0 : Int) ≤ w32 (l3 + 2) ∧ w32 (l3 + 2) < L then
                        if (0 : Int) ≤ w32 (l3 + 3) ∧ w32 (l3 + 3) < L then
                        if kK l1 = 10 then
                        ob (X_marks l1 (sc (w32 (l3 + 1))) (sc (w32 (l3 + 2))) (sc (w32 (l3 + 3))) h) (fun r463 =>
                          if kK l2 = 11 then
                          ob (M_marks l2 (sc (w32 (l3 + 1))) (sc (w32 (l3 + 2))) (sc (w32 (l3 + 3))) r463.2) (fun r482 =>
                            if r463.1 = r482.1 then
                              Lw_j1356 d sc L l0 l1 l2 l3 r482.2
                            else
                              none)
                          else none)
                        else none
                        else none
                        else none
                        else none
                      else
                        if i_and (sc l3) 63 = 10 then
                          if (0 : Int) ≤ w32 (l3 + 1) ∧ w32 (l3 + 1) < L then
                          if (0 : Int) ≤ w32 (l3 + 2) ∧ w32 (l3 + 2) < L then
                          if (0 : Int) ≤ w32 (l3 + 3) ∧ w32 (l3 + 3) < L then
                          if (0 : Int) ≤ w32 (l3 + 4) ∧ w32 (l3 + 4) < L then
                          if (0 : Int) ≤ w32 (l3 + 5) ∧ w32 (l3 + 5) < L then
                          if (0 : Int) ≤ w32 (l3 + 6) ∧ w32 (l3 + 6) < L then
                          if (0 : Int) ≤ w32 (l3 + 7) ∧ w32 (l3 + 7) < L then
                          if kK l1 = 10 then
                          ob (X_over l1 (sc (w32 (l3 + 1))) (sc (w32 (l3 + 2))) (sc (w32 (l3 + 3))) (sc (w32 (l3 + 4))) (sc (w32 (l3 + 5))) (sc (w32 (l3 + 6))) (sc (w32 (l3 + 7))) h) (fun r528 =>
                            if kK l2 = 11 then
                            ob (M_over (d - 1) l2 (sc (w32 (l3 + 1))) (sc (w32 (l3 + 2))) (sc (w32 (l3 + 3))) (sc (w32 (l3 + 4))) (sc (w32 (l3 + 5))) (sc (w32 (l3 + 6))) (sc (w32 (l3 + 7))) r528.2) (fun r569 =>
                              if r528.1 = r569.1 then
                                Lw_j1356 d sc L l0 l1 l2 l3 r569.2
                              else
                                none)
                            else none)
                          else none
                          else none
                          else none
                          else none
                          else none
                          else none
                          else none
                          else none
                        else
                          if i_and (sc l3) 63 = 11 then
                            if (0 : Int) ≤ w32 (l3 + 1) ∧ w32 (l3 + 1) < L then
                            if kK l1 = 10 then
                            ob (X_items l1 (sc (w32 (l3 + 1))) h) (fun r584 =>
                              if kK l2 = 11 then
                              ob (M_items (d - 1) l2 (sc (w32 (l3 + 1))) r584.2) (fun r593 =>
                                if r584.1 = r593.1 then
                                  Lw_j1356 d sc L l0 l1 l2 l3 r593.2
                                else
                                  none)
                              else none)
                            else none
                            else none
                          else
                            if i_and (sc l3) 63 = 12 then
                              if (0 : Int) ≤ w32 (l3 + 1) ∧ w32 (l3 + 1) < L then
                              if (0 : Int) ≤ w32 (l3 + 2) ∧ w32 (l3 + 2) < L then
                              if kK l1 = 10 then
                              ob (X_spans l1 (sc (w32 (l3 + 1))) (sc (w32 (l3 + 2))) h) (fun r612 =>
                                if kK l2 = 11 then
                                ob (M_spans (d - 1) l2 (sc (w32 (l3 + 1))) (sc (w32 (l3 + 2))) r612.2) (fun r626 =>
                                  if r612.1 = r626.1 then
                                    Lw_j1356 d sc L l0 l1 l2 l3 r626.2
                                  else
                                    none)
                                else none)
                              else none
                              else none
                              else none
                            else
                              if i_and (sc l3) 63 = 13 then
                                if (0 : Int) ≤ w32 (l3 + 1) ∧ w32 (l3 + 1) < L then
                                if (0 : Int) ≤ w32 (l3 + 2) ∧ w32 (l3 + 2) < L then
                                if (0 : Int) ≤ w32 (l3 + 3) ∧ w32 (l3 + 3) < L then
                                if (0 : Int) ≤ w32 (l3 + 4) ∧ w32 (l3 + 4) < L then
                                if kK l1 = 10 then
                                ob (X_around l1 (sc (w32 (l3 + 1))) (sc (w32 (l3 + 2))) (sc (w32 (l3 + 3))) (sc (w32 (l3 + 4))) h) (fun r655 =>
                                  if kK l2 = 11 then
                                  ob (M_around (d - 1) l2 (sc (w32 (l3 + 1))) (sc (w32 (l3 + 2))) (sc (w32 (l3 + 3))) (sc (w32 (l3 + 4))) r655.2) (fun r679 =>
                                    if r655.1 = r679.1 then
                                      Lw_j1356 d sc L l0 l1 l2 l3 r679.2
                                    else
                                      none)
                                  else none)
                                else none
                                else none
                                else none
                                else none
                                else none
                              else
                                if i_and (sc l3) 63 = 14 then
                                  if kK l1 = 10 then
                                  ob (X_reads l1 h) (fun r688 =>
                                    if kK l2 = 11 then
                                    ob (M_reads (d - 1) l2 r688.2) (fun r692 =>
                                      if r688.1 = r692.1 then
                                        Lw_j1356 d sc L l0 l1 l2 l3 r692.2
                                      else
                                        none)
                                    else none)
                                  else none
                                else
                                  if i_and (sc l3) 63 = 15 then
                                    if kK l1 = 10 then
                                    ob (X_heads l1 h) (fun r701 =>
                                      if kK l2 = 11 then
                                      ob (M_heads (d - 1) l2 r701.2) (fun r705 =>
                                        if r701.1 = r705.1 then
                                          Lw_j1356 d sc L l0 l1 l2 l3 r705.2
                                        else
                                          none)
                                      else none)
                                    else none
                                  else
                                    if i_and (sc l3) 63 = 16 then
                                      if kK l1 = 10 then
                                      ob (X_ways l1 h) (fun r714 =>
                                        if kK l2 = 11 then
                                        ob (M_ways (d - 1) l2 r714.2) (fun r718 =>
                                          if r714.1 = r718.1 then
                                            Lw_j1356 d sc L l0 l1 l2 l3 r718.2
                                          else
                                            none)
                                        else none)
                                      else none
                                    else
                                      if i_and (sc l3) 63 = 17 then
                                        if (0 : Int) ≤ w32 (l3 + 1) ∧ w32 (l3 + 1) < L then
                                        if kK l1 = 10 then
                                        ob (X_without l1 (sc (w32 (l3 + 1))) h) (fun r733 =>
                                          if kK l2 = 11 then
                                          ob (M_without (d - 1) l2 (sc (w32 (l3 + 1))) r733.2) (fun r742 =>
                                            if r733.1 = r742.1 then
                                              Lw_j1356 d sc L l0 l1 l2 l3 r742.2
                                            else
                                              none)
                                          else none)
                                        else none
                                        else none
                                      else
                                        if i_and (sc l3) 63 = 18 then
                                          if (0 : Int) ≤ w32 (l3 + 1) ∧ w32 (l3 + 1) < L then
                                          if kK l1 = 10 then
                                          ob (X_lengths l1 (sc (w32 (l3 + 1))) h) (fun r757 =>
                                            if kK l2 = 11 then
                                            ob (M_lengths (d - 1) l2 (sc (w32 (l3 + 1))) r757.2) (fun r766 =>
                                              if r757.1 = r766.1 then
                                                Lw_j1356 d sc L l0 l1 l2 l3 r766.2
                                              else
                                                none)
                                            else none)
                                          else none
                                          else none
                                        else
                                          if i_and (sc l3) 63 = 19 then
                                            if (0 : Int) ≤ w32 (l3 + 1) ∧ w32 (l3 + 1) < L then
                                            if (0 : Int) ≤ w32 (l3 + 2) ∧ w32 (l3 + 2) < L then
                                            if kK l1 = 10 then
                                            ob (X_steps l1 (l_or (l_shl (sc (w32 (l3 + 1))) 32) (l_and (sc (w32 (l3 + 2))) 4294967295)) h) (fun r795 =>
                                              if kK l2 = 11 then
                                              ob (M_steps (d - 1) l2 (l_or (l_shl (sc (w32 (l3 + 1))) 32) (l_and (sc (w32 (l3 + 2))) 4294967295)) r795.2) (fun r819 =>
                                                if r795.1 = r819.1 then
                                                  Lw_j1356 d sc L l0 l1 l2 l3 r819.2
                                                else
                                                  none)
                                              else none)
                                            else none
                                            else none
                                            else none
                                          else
                                            if i_and (sc l3) 63 = 20 then
                                              if (0 : Int) ≤ w32 (l3 + 1) ∧ w32 (l3 + 1) < L then
                                              if (0 : Int) ≤ w32 (l3 + 2) ∧ w32 (l3 + 2) < L then
                                              if (0 : Int) ≤ w32 (l3 + 3) ∧ w32 (l3 + 3) < L then
                                              if (0 : Int) ≤ w32 (l3 + 4) ∧ w32 (l3 + 4) < L then
                                              if kK l1 = 10 then
                                              ob (X_step l1 (l_or (l_shl (sc (w32 (l3 + 1))) 32) (l_and (sc (w32 (l3 + 2))) 4294967295)) (sc (w32 (l3 + 3))) (sc (w32 (l3 + 4))) h) (fun r858 =>
                                                if kK l2 = 11 then
                                                ob (M_step (d - 1) l2 (l_or (l_shl (sc (w32 (l3 + 1))) 32) (l_and (sc (w32 (l3 + 2))) 4294967295)) (sc (w32 (l3 + 3))) (sc (w32 (l3 + 4))) r858.2) (fun r892 =>
                                                  if r858.1 = r892.1 then
                                                    Lw_j1356 d sc L l0 l1 l2 l3 r892.2
                                                  else
                                                    none)
                                                else none)
                                              else none
                                              else none
                                              else none
                                              else none
                                              else none
                                            else
                                              if i_and (sc l3) 63 = 21 then
                                                if (0 : Int) ≤ w32 (l3 + 1) ∧ w32 (l3 + 1) < L then
                                                if (0 : Int) ≤ w32 (l3 + 2) ∧ w32 (l3 + 2) < L then
                                                if (0 : Int) ≤ w32 (l3 + 3) ∧ w32 (l3 + 3) < L then
                                                if (0 : Int) ≤ w32 (l3 + 4) ∧ w32 (l3 + 4) < L then
                                                if kK l1 = 10 then
                                                ob (X_whose l1 (l_or (l_shl (sc (w32 (l3 + 1))) 32) (l_and (sc (w32 (l3 + 2))) 4294967295)) (sc (w32 (l3 + 3))) (sc (w32 (l3 + 4))) h) (fun r931 =>
                                                  if kK l2 = 11 then
                                                  ob (M_whose (d - 1) l2 (l_or (l_shl (sc (w32 (l3 + 1))) 32) (l_and (sc (w32 (l3 + 2))) 4294967295)) (sc (w32 (l3 + 3))) (sc (w32 (l3 + 4))) r931.2) (fun r965 =>
                                                    if r931.1 = r965.1 then
                                                      Lw_j1356 d sc L l0 l1 l2 l3 r965.2
                                                    else
                                                      none)
                                                  else none)
                                                else none
                                                else none
                                                else none
                                                else none
                                                else none
                                              else
                                                if i_and (sc l3) 63 = 22 then
                                                  if (0 : Int) ≤ w32 (l3 + 1) ∧ w32 (l3 + 1) < L then
                                                  if (0 : Int) ≤ w32 (l3 + 2) ∧ w32 (l3 + 2) < L then
                                                  if (0 : Int) ≤ w32 (l3 + 3) ∧ w32 (l3 + 3) < L then
                                                  if kK l1 = 10 then
                                                  ob (X_arcs l1 (l_or (l_shl (sc (w32 (l3 + 1))) 32) (l_and (sc (w32 (l3 + 2))) 4294967295)) (sc (w32 (l3 + 3))) h) (fun r999 =>
                                                    if kK l2 = 11 then
                                                    ob (M_arcs (d - 1) l2 (l_or (l_shl (sc (w32 (l3 + 1))) 32) (l_and (sc (w32 (l3 + 2))) 4294967295)) (sc (w32 (l3 + 3))) r999.2) (fun r1028 =>
                                                      if r999.1 = r1028.1 then
                                                        Lw_j1356 d sc L l0 l1 l2 l3 r1028.2
                                                      else
                                                        none)
                                                    else none)
                                                  else none
                                                  else none
                                                  else none
                                                  else none
                                                else
                                                  if i_and (sc l3) 63 = 23 then
                                                    if (0 : Int) ≤ w32 (l3 + 1) ∧ w32 (l3 + 1) < L then
                                                    if (0 : Int) ≤ w32 (l3 + 2) ∧ w32 (l3 + 2) < L then
                                                    if (0 : Int) ≤ w32 (l3 + 3) ∧ w32 (l3 + 3) < L then
                                                    if kK l1 = 10 then
                                                    ob (X_grown l1 (l_or (l_shl (sc (w32 (l3 + 1))) 32) (l_and (sc (w32 (l3 + 2))) 4294967295)) (sc (w32 (l3 + 3))) h) (fun r1062 =>
                                                      if kK l2 = 11 then
                                                      ob (M_grown (d - 1) l2 (l_or (l_shl (sc (w32 (l3 + 1))) 32) (l_and (sc (w32 (l3 + 2))) 4294967295)) (sc (w32 (l3 + 3))) r1062.2) (fun r1091 =>
                                                        if r1062.1 = r1091.1 then
                                                          Lw_j1356 d sc L l0 l1 l2 l3 r1091.2
                                                        else
                                                          none)
                                                      else none)
                                                    else none
                                                    else none
                                                    else none
                                                    else none
                                                  else
                                                    if i_and (sc l3) 63 = 24 then
                                                      if (0 : Int) ≤ w32 (l3 + 1) ∧ w32 (l3 + 1) < L then
                                                      if (0 : Int) ≤ w32 (l3 + 2) ∧ w32 (l3 + 2) < L then
                                                      if kK l1 = 10 then
                                                      ob (X_tell l1 (l_or (l_shl (sc (w32 (l3 + 1))) 32) (l_and (sc (w32 (l3 + 2))) 4294967295)) h) (fun r1120 =>
                                                        if kK l2 = 11 then
                                                        ob (M_tell (d - 1) l2 (l_or (l_shl (sc (w32 (l3 + 1))) 32) (l_and (sc (w32 (l3 + 2))) 4294967295)) r1120.2) (fun r1144 =>
                                                          if r1120.1 = r1144.1 then
                                                            Lw_j1356 d sc L l0 l1 l2 l3 r1144.2
                                                          else
                                                            none)
                                                        else none)
                                                      else none
                                                      else none
                                                      else none
                                                    else
                                                      if i_and (sc l3) 63 = 25 then
                                                        if (0 : Int) ≤ w32 (l3 + 1) ∧ w32 (l3 + 1) < L then
                                                        if (0 : Int) ≤ w32 (l3 + 2) ∧ w32 (l3 + 2) < L then
                                                        if kK l1 = 10 then
                                                        ob (X_tellWay l1 (l_or (l_shl (sc (w32 (l3 + 1))) 32) (l_and (sc (w32 (l3 + 2))) 4294967295)) h) (fun r1173 =>
                                                          if kK l2 = 11 then
                                                          ob (M_tellWay (d - 1) l2 (l_or (l_shl (sc (w32 (l3 + 1))) 32) (l_and (sc (w32 (l3 + 2))) 4294967295)) r1173.2) (fun r1197 =>
                                                            if r1173.1 = r1197.1 then
                                                              Lw_j1356 d sc L l0 l1 l2 l3 r1197.2
                                                            else
                                                              none)
                                                          else none)
                                                        else none
                                                        else none
                                                        else none
                                                      else
                                                        if i_and (sc l3) 63 = 26 then
                                                          if (0 : Int) ≤ w32 (l3 + 1) ∧ w32 (l3 + 1) < L then
                                                          if kK l1 = 10 then
                                                          ob (X_octet l1 (sc (w32 (l3 + 1))) h) (fun r1211 =>
                                                            if kK l2 = 11 then
                                                            ob (M_octet l2 (sc (w32 (l3 + 1))) h) (fun r1220 =>
                                                              if r1211 = r1220 then
                                                                Lw_j1356 d sc L l0 l1 l2 l3 h
                                                              else
                                                                none)
                                                            else none)
                                                          else none
                                                          else none
                                                        else
                                                          if i_and (sc l3) 63 = 27 then
                                                            if kK l1 = 10 then
                                                            ob (X_test l1 h) (fun r1229 =>
                                                              if kK l2 = 11 then
                                                              ob (M_test (d - 1) l2 r1229.2) (fun r1233 =>
                                                                if r1229.1 = r1233.1 then
                                                                  Lw_j1356 d sc L l0 l1 l2 l3 r1233.2
                                                                else
                                                                  none)
                                                              else none)
                                                            else none
                                                          else
                                                            if i_and (sc l3) 63 = 28 then
                                                              if kK l1 = 10 then
                                                              ob (X_mends l1 h) (fun r1242 =>
                                                                if kK l2 = 11 then
                                                                ob (M_mends (d - 1) l2 r1242.2) (fun r1246 =>
                                                                  if r1242.1 = r1246.1 then
                                                                    Lw_j1356 d sc L l0 l1 l2 l3 r1246.2
                                                                  else
                                                                    none)
                                                                else none)
                                                              else none
                                                            else
                                                              if i_and (sc l3) 63 = 29 then
                                                                if (0 : Int) ≤ w32 (l3 + 1) ∧ w32 (l3 + 1) < L then
                                                                if kK l1 = 10 then
                                                                ob (X_mend l1 (sc (w32 (l3 + 1))) h) (fun r1260 =>
                                                                  if kK l2 = 11 then
                                                                  ob (M_mend (d - 1) l2 (sc (w32 (l3 + 1))) r1260.2) (fun r1269 =>
                                                                    if r1260.1 = r1269.1 then
                                                                      Lw_j1356 d sc L l0 l1 l2 l3 r1269.2
                                                                    else
                                                                      none)
                                                                  else none)
                                                                else none
                                                                else none
                                                              else
                                                                if i_and (sc l3) 63 = 30 then
                                                                  if (0 : Int) ≤ w32 (l3 + 1) ∧ w32 (l3 + 1) < L then
                                                                  if kK l1 = 10 then
                                                                  ob (X_sentences l1 (sc (w32 (l3 + 1))) h) (fun r1283 =>
                                                                    if kK l2 = 11 then
                                                                    ob (M_sentences (d - 1) l2 (sc (w32 (l3 + 1))) r1283.2) (fun r1292 =>
                                                                      if r1283.1 = r1292.1 then
                                                                        Lw_j1356 d sc L l0 l1 l2 l3 r1292.2
                                                                      else
                                                                        none)
                                                                    else none)
                                                                  else none
                                                                  else none
                                                                else
                                                                  if i_and (sc l3) 63 = 31 then
                                                                    if (0 : Int) ≤ w32 (l3 + 1) ∧ w32 (l3 + 1) < L then
                                                                    if (0 : Int) ≤ w32 (l3 + 2) ∧ w32 (l3 + 2) < L then
                                                                    if kK l1 = 10 then
                                                                    ob (X_sentence l1 (sc (w32 (l3 + 1))) (sc (w32 (l3 + 2))) h) (fun r1311 =>
                                                                      if kK l2 = 11 then
                                                                      ob (M_sentence (d - 1) l2 (sc (w32 (l3 + 1))) (sc (w32 (l3 + 2))) r1311.2) (fun r1325 =>
                                                                        if r1311.1 = r1325.1 then
                                                                          Lw_j1356 d sc L l0 l1 l2 l3 r1325.2
                                                                        else
                                                                          none)
                                                                      else none)
                                                                    else none
                                                                    else none
                                                                    else none
                                                                  else
                                                                    if i_and (sc l3) 63 = 32 then
                                                                      if (0 : Int) ≤ w32 (l3 + 1) ∧ w32 (l3 + 1) < L then
                                                                      if kK l1 = 10 then
                                                                      ob (X_used l1 (sc (w32 (l3 + 1))) h) (fun r1339 =>
                                                                        if kK l2 = 11 then
                                                                        ob (M_used (d - 1) l2 (sc (w32 (l3 + 1))) r1339.2) (fun r1348 =>
                                                                          if r1339.1 = r1348.1 then
                                                                            Lw_j1356 d sc L l0 l1 l2 l3 r1348.2
                                                                          else
                                                                            none)
                                                                        else none)
                                                                      else none
                                                                      else none
                                                                    else
                                                                      Lw_j1356 d sc L l0 l1 l2 l3 h
    else none
  else none
