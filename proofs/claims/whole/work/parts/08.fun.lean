/-! 08: the functions that the methods compute -/
def fD_isAllDone_b30 (k2 : Int32 → Mem → Option (Int32 × Mem)) (a1 : Int32) (M : Mem) : Option (Int32 × Mem) :=
  k2 (a1 + 1) M
def fD_isAllDone_b2 : Nat → Int32 → Mem → Option (Int32 × Mem)
  | 0, _, _ => none
  | z + 1, a1, M =>
    if 8 ≤ a1 then
      some (1, M)
    else
      if (((M 45 12) >>> (a1 &&& 31)) &&& 1) = 0 then
        fD_isAllDone_b30 (fD_isAllDone_b2 z) a1 M
      else
        if ib a1 8 then
        if (M 56 (ix a1)) ≤ 0 then
          fD_isAllDone_b30 (fD_isAllDone_b2 z) a1 M
        else
          some (0, M)
        else none
def fD_isAllDone (M : Mem) : Option (Int32 × Mem) :=
  fD_isAllDone_b2 1000 0 M
def fD_othersWith_b47 (k4 : Int32 → Int32 → Mem → Option (Int32 × Mem)) (a1 : Int32) (a2 : Int32) (a3 : Int32) (M : Mem) : Option (Int32 × Mem) :=
  k4 a2 (a3 + 1) M
def fD_othersWith_b4 (a1 : Int32) : Nat → Int32 → Int32 → Mem → Option (Int32 × Mem)
  | 0, _, _, _ => none
  | z + 1, a2, a3, M =>
    if hOK (ix (M 45 0)) then
    if (M (ix (M 45 0)) 2) ≤ a3 then
      some (a2, M)
    else
      if a3 = a1 then
        fD_othersWith_b47 (fD_othersWith_b4 a1 z) a1 a2 a3 M
      else
        if ib a3 4 then
        if (M 52 (ix a3)) = 0 then
          if ib a3 4 then
          if ib a1 4 then
          if (M 50 (ix a3)) = (M 50 (ix a1)) then
            fD_othersWith_b47 (fD_othersWith_b4 a1 z) a1 (a2 + 1) a3 M
          else
            fD_othersWith_b47 (fD_othersWith_b4 a1 z) a1 a2 a3 M
          else none
          else none
        else
          fD_othersWith_b47 (fD_othersWith_b4 a1 z) a1 a2 a3 M
        else none
    else none
def fD_othersWith (a1 : Int32) (M : Mem) : Option (Int32 × Mem) :=
  fD_othersWith_b4 a1 1000 0 0 M
def fG_joined_b116 (M : Mem) : Option (Int32 × Mem) :=
  some (1, M)
def fG_joined (a0 : Int32) (a1 : Int32) (a2 : Int32) (M : Mem) : Option (Int32 × Mem) :=
  if a0 = 10 then
    if a1 = 0 then
      some (0, M)
    else
      if a2 = 0 then
        some (0, M)
      else
        some (1, M)
  else
  if a0 = 42 then
    some ((a1 * a2), M)
  else
  if a0 = 43 then
    some ((a1 + a2), M)
  else
  if a0 = 45 then
    some ((a1 - a2), M)
  else
  if a0 = 60 then
    if a2 ≤ a1 then
      some (0, M)
    else
      some (1, M)
  else
  if a0 = 61 then
    if a1 = a2 then
      some (1, M)
    else
      some (0, M)
  else
    if a1 = 0 then
      if a2 = 0 then
        some (0, M)
      else
        fG_joined_b116 M
    else
      fG_joined_b116 M
def fG_value_b177 (k21 : Int32 → Int32 → Mem → Option (Int32 × Mem)) (q0 : Nat) (a1 : Int32) (a4 : Int32) (a5 : Int32) (M : Mem) : Option (Int32 × Mem) :=
  k21 a4 (a5 + 1) M
def fG_value_b146 (k21 : Int32 → Int32 → Mem → Option (Int32 × Mem)) (q0 : Nat) (a1 : Int32) (a4 : Int32) (a5 : Int32) (a6 : Int32) (M : Mem) : Option (Int32 × Mem) :=
  if a4 < 2 then
    fG_value_b177 k21 q0 a1 a4 a5 M
  else
    if ib ((a4 + (-1)) - 1) 160 then
    if ib (a4 + (-1)) 160 then
    (fG_joined (-a6) (M 49 (ix ((a4 + (-1)) - 1))) (M 49 (ix (a4 + (-1)))) M).bind fun w1 =>
    if ib ((a4 + (-1)) - 1) 160 then
    fG_value_b177 k21 q0 a1 (a4 + (-1)) a5 (wr w1.2 49 (ix ((a4 + (-1)) - 1)) w1.1)
    else none
    else none
    else none
def fG_value_b142 (k21 : Int32 → Int32 → Mem → Option (Int32 × Mem)) (q0 : Nat) (a1 : Int32) (a4 : Int32) (a5 : Int32) (s0 : Int32) (s1 : Int32) (M : Mem) : Option (Int32 × Mem) :=
  if ib s1 160 then
  fG_value_b177 k21 q0 a1 a4 a5 (wr M 49 (ix s1) s0)
  else none
def fG_value_b110 (k21 : Int32 → Int32 → Mem → Option (Int32 × Mem)) (q0 : Nat) (a1 : Int32) (a4 : Int32) (a5 : Int32) (a6 : Int32) (M : Mem) : Option (Int32 × Mem) :=
  if a6 = (-11) then
    if a4 < 1 then
      fG_value_b146 k21 q0 a1 a4 a5 a6 M
    else
      if ib (a4 - 1) 160 then
      if (M 49 (ix (a4 - 1))) = 0 then
        fG_value_b142 k21 q0 a1 a4 a5 1 (a4 - 1) M
      else
        fG_value_b142 k21 q0 a1 a4 a5 0 (a4 - 1) M
      else none
  else
    fG_value_b146 k21 q0 a1 a4 a5 a6 M
def fG_value_b81 (k21 : Int32 → Int32 → Mem → Option (Int32 × Mem)) (q0 : Nat) (a1 : Int32) (a4 : Int32) (a5 : Int32) (a6 : Int32) (M : Mem) : Option (Int32 × Mem) :=
  if a6 = (-12) then
    if a4 < 1 then
      fG_value_b110 k21 q0 a1 a4 a5 a6 M
    else
      if ib (a4 - 1) 160 then
      if ib (a4 - 1) 160 then
      fG_value_b177 k21 q0 a1 a4 a5 (wr M 49 (ix (a4 - 1)) (-(M 49 (ix (a4 - 1)))))
      else none
      else none
  else
    fG_value_b110 k21 q0 a1 a4 a5 a6 M
def fG_value_b74 (k21 : Int32 → Int32 → Mem → Option (Int32 × Mem)) (q0 : Nat) (a1 : Int32) (a4 : Int32) (a5 : Int32) (s0 : Int32) (s1 : Int32) (M : Mem) : Option (Int32 × Mem) :=
  if ib s1 160 then
  fG_value_b177 k21 q0 a1 (a4 + 1) a5 (wr M 49 (ix s1) s0)
  else none
def fG_value_b21 (q0 : Nat) (a1 : Int32) : Nat → Int32 → Int32 → Mem → Option (Int32 × Mem)
  | 0, _, _, _ => none
  | z + 1, a4, a5, M =>
    if ib a1 3 then
    if (M (q0 + 2) (ix a1)) ≤ a5 then
      if ib 0 160 then
      some ((M 49 (ix 0)), M)
      else none
    else
      if ib a5 160 then
      if (M (q0 + 1) (ix a5)) < (-6) then
        fG_value_b81 (fG_value_b21 q0 a1 z) q0 a1 a4 a5 (M (q0 + 1) (ix a5)) M
      else
        if (Int32.ofNat 160) ≤ a4 then
          fG_value_b81 (fG_value_b21 q0 a1 z) q0 a1 a4 a5 (M (q0 + 1) (ix a5)) M
        else
          if (M (q0 + 1) (ix a5)) < 0 then
            if ib ((-1) - (M (q0 + 1) (ix a5))) 6 then
            fG_value_b74 (fG_value_b21 q0 a1 z) q0 a1 a4 a5 (M 48 (ix ((-1) - (M (q0 + 1) (ix a5))))) a4 M
            else none
          else
            fG_value_b74 (fG_value_b21 q0 a1 z) q0 a1 a4 a5 (M (q0 + 1) (ix a5)) a4 M
      else none
    else none
def fG_value_b19 (q0 : Nat) (a1 : Int32) (a4 : Int32) (s0 : Int32) (M : Mem) : Option (Int32 × Mem) :=
  fG_value_b21 q0 a1 1000 a4 s0 M
def fG_value (q0 : Nat) (a1 : Int32) (M : Mem) : Option (Int32 × Mem) :=
  if a1 = 0 then
    fG_value_b19 q0 a1 0 0 M
  else
    if ib (a1 - 1) 3 then
    fG_value_b19 q0 a1 0 (M (q0 + 2) (ix (a1 - 1))) M
    else none
def fD_tells (a1 : Int32) (a2 : Int32) (a3 : Int32) (a4 : Int32) (M : Mem) : Option (Int32 × Mem) :=
  if ib 0 6 then
  if ib a2 4 then
  if ib 1 6 then
  if ib a2 4 then
  if ib ((wr (wr M 48 (ix 0) a3) 48 (ix 1) ((wr M 48 (ix 0) a3) 50 (ix a2))) 50 (ix a2)) 8 then
  if ib 2 6 then
  if hOK (ix ((wr (wr (wr M 48 (ix 0) a3) 48 (ix 1) ((wr M 48 (ix 0) a3) 50 (ix a2))) 48 (ix 2) ((wr (wr M 48 (ix 0) a3) 48 (ix 1) ((wr M 48 (ix 0) a3) 50 (ix a2))) 56 (ix ((wr (wr M 48 (ix 0) a3) 48 (ix 1) ((wr M 48 (ix 0) a3) 50 (ix a2))) 50 (ix a2))))) 45 0)) then
  if ib a2 4 then
  if ib 3 6 then
  if ib 4 6 then
  (fD_othersWith a2 (wr (wr (wr (wr (wr M 48 (ix 0) a3) 48 (ix 1) ((wr M 48 (ix 0) a3) 50 (ix a2))) 48 (ix 2) ((wr (wr M 48 (ix 0) a3) 48 (ix 1) ((wr M 48 (ix 0) a3) 50 (ix a2))) 56 (ix ((wr (wr M 48 (ix 0) a3) 48 (ix 1) ((wr M 48 (ix 0) a3) 50 (ix a2))) 50 (ix a2))))) 48 (ix 3) ((wr (wr (wr M 48 (ix 0) a3) 48 (ix 1) ((wr M 48 (ix 0) a3) 50 (ix a2))) 48 (ix 2) ((wr (wr M 48 (ix 0) a3) 48 (ix 1) ((wr M 48 (ix 0) a3) 50 (ix a2))) 56 (ix ((wr (wr M 48 (ix 0) a3) 48 (ix 1) ((wr M 48 (ix 0) a3) 50 (ix a2))) 50 (ix a2))))) ((ix ((wr (wr (wr M 48 (ix 0) a3) 48 (ix 1) ((wr M 48 (ix 0) a3) 50 (ix a2))) 48 (ix 2) ((wr (wr M 48 (ix 0) a3) 48 (ix 1) ((wr M 48 (ix 0) a3) 50 (ix a2))) 56 (ix ((wr (wr M 48 (ix 0) a3) 48 (ix 1) ((wr M 48 (ix 0) a3) 50 (ix a2))) 50 (ix a2))))) 45 0)) + 5 + 2 * ix a2) 1)) 48 (ix 4) a4)).bind fun w3 =>
  if ib 5 6 then
  if hOK (ix ((wr w3.2 48 (ix 5) w3.1) 45 0)) then
  if ib ((wr w3.2 48 (ix 5) w3.1) (ix ((wr w3.2 48 (ix 5) w3.1) 45 0)) 3) 6 then
  (fG_value (59 + 3 * ix ((wr w3.2 48 (ix 5) w3.1) (ix ((wr w3.2 48 (ix 5) w3.1) 45 0)) 3)) a1 (wr w3.2 48 (ix 5) w3.1)).bind fun w6 =>
  if a1 = 2 then
    some ((if 0 < (if w6.1 < 99 then w6.1 else 99) then (if w6.1 < 99 then w6.1 else 99) else 0), w6.2)
  else
    some ((if 1 < (if w6.1 < 9 then w6.1 else 9) then (if w6.1 < 9 then w6.1 else 9) else 1), w6.2)
  else none
  else none
  else none
  else none
  else none
  else none
  else none
  else none
  else none
  else none
  else none
  else none
  else none
def fA_dares (q0 : Nat) (a1 : Int32) (M : Mem) : Option (Int32 × Mem) :=
  if (M q0 0) = 3 then
    if ((M q0 1) + 2) = 0 then none else
    if (a1 - a1 / ((M q0 1) + 2) * ((M q0 1) + 2)) = 0 then
      some (1, M)
    else
      some (0, M)
  else
    some (0, M)
def fN_within (a0 : Int32) (a1 : Int32) (M : Mem) : Option (Int32 × Mem) :=
  if a0 < 0 then
    some (0, M)
  else
    if a1 ≤ a0 then
      some (0, M)
    else
      some (1, M)
def fA_roomListed (q0 : Nat) (a1 : Int32) (M : Mem) : Option (Int32 × Mem) :=
  (fN_within a1 (M q0 3) M).bind fun w1 =>
  if w1.1 = 0 then
    some ((-1), w1.2)
  else
    if ib a1 5 then
    some ((w1.2 (q0 + 1) (ix a1)), w1.2)
    else none
def fA_takes_b40 (q0 : Nat) (a1 : Int32) (M : Mem) : Option (Int32 × Mem) :=
  some ((if 1 < (a1 - ((M q0 1) / 3)) then (a1 - ((M q0 1) / 3)) else 1), M)
def fA_takes (q0 : Nat) (a1 : Int32) (M : Mem) : Option (Int32 × Mem) :=
  if (M q0 0) = 1 then
    fA_takes_b40 q0 a1 M
  else
  if (M q0 0) = 2 then
    some ((a1 + 1), M)
  else
  if (M q0 0) = 3 then
    fA_takes_b40 q0 a1 M
  else
  if (M q0 0) = 4 then
    some ((2 * (a1 + 1)), M)
  else
  if (M q0 0) = 5 then
    some ((2 * a1), M)
  else
    some (a1, M)
def fA_works_b40 (a1 : Int32) (M : Mem) : Option (Int32 × Mem) :=
  some ((a1 + 1), M)
def fA_works_b59 (a1 : Int32) (M : Mem) : Option (Int32 × Mem) :=
  some (a1, M)
def fA_works (q0 : Nat) (a1 : Int32) (M : Mem) : Option (Int32 × Mem) :=
  if (M q0 0) = 1 then
    fA_works_b40 a1 M
  else
  if (M q0 0) = 2 then
    fA_works_b59 a1 M
  else
  if (M q0 0) = 3 then
    fA_works_b40 a1 M
  else
  if (M q0 0) = 4 then
    some ((a1 + (M q0 1)), M)
  else
  if (M q0 0) = 5 then
    some ((if 1 < (a1 / 2) then (a1 / 2) else 1), M)
  else
    fA_works_b59 a1 M
def fY_nextLaid (a1 : Int32) (a2 : Int32) (M : Mem) : Option (Int32 × Mem) :=
  (fN_within a1 8 M).bind fun w1 =>
  if w1.1 = 0 then
    some ((-1), w1.2)
  else
    (fN_within a2 8 w1.2).bind fun w2 =>
    if w2.1 = 0 then
      some ((-1), w2.2)
    else
      if ib ((a1 * 8) + a2) 64 then
      some ((w2.2 47 (ix ((a1 * 8) + a2))), w2.2)
      else none
def fD_turn_b238 (a1 : Int32) (M : Mem) : Option (Mem) :=
  if ib a1 4 then
  if ib a1 4 then
  some (wr M 55 (ix a1) ((M 55 (ix a1)) + 1))
  else none
  else none
def fD_turn_b207 (a1 : Int32) (a2 : Int32) (q4 : Nat) (a7 : Int32) (M : Mem) : Option (Mem) :=
  (fD_tells 0 a1 a2 a7 M).bind fun w9 =>
  (fA_takes q4 w9.1 w9.2).bind fun w10 =>
  if ib a1 4 then
  if ib a1 4 then
  some (wr (wr w10.2 52 (ix a1) w10.1) 51 (ix a1) a7)
  else none
  else none
def fD_turn (a1 : Int32) (a2 : Int32) (a3 : Int32) (M : Mem) : Option (Mem) :=
  if hOK (ix (M 45 0)) then
  if ib a1 4 then
  if ib a1 4 then
  if ib a1 4 then
  (fA_roomListed ((ix (M 45 0)) + 5 + 2 * ix a1) (M 53 (ix a1)) M).bind fun w3 =>
  if ib a1 4 then
  if (w3.2 52 (ix a1)) ≤ 0 then
    if (M 50 (ix a1)) = a3 then
      if ib a1 4 then
      if ib a1 4 then
      (fD_tells 2 a1 a2 0 (wr w3.2 54 (ix a1) ((w3.2 54 (ix a1)) + 1))).bind fun w4 =>
      some (wr w4.2 45 13 (((wr w3.2 54 (ix a1) ((w3.2 54 (ix a1)) + 1)) 45 13) + w4.1))
      else none
      else none
    else
      if (M 50 (ix a1)) = w3.1 then
        if ib (M 50 (ix a1)) 8 then
        (fD_tells 1 a1 a2 0 w3.2).bind fun w5 =>
        (fA_works ((ix (M 45 0)) + 5 + 2 * ix a1) w5.1 w5.2).bind fun w6 =>
        if ib (M 50 (ix a1)) 8 then
        if ib (M 50 (ix a1)) 8 then
        if ((wr w6.2 56 (ix (M 50 (ix a1))) (if 0 < ((w3.2 56 (ix (M 50 (ix a1)))) - w6.1) then ((w3.2 56 (ix (M 50 (ix a1)))) - w6.1) else 0)) 56 (ix (M 50 (ix a1)))) = 0 then
          if ib a1 4 then
          if ib a1 4 then
          some (wr (wr w6.2 56 (ix (M 50 (ix a1))) (if 0 < ((w3.2 56 (ix (M 50 (ix a1)))) - w6.1) then ((w3.2 56 (ix (M 50 (ix a1)))) - w6.1) else 0)) 53 (ix a1) (((wr w6.2 56 (ix (M 50 (ix a1))) (if 0 < ((w3.2 56 (ix (M 50 (ix a1)))) - w6.1) then ((w3.2 56 (ix (M 50 (ix a1)))) - w6.1) else 0)) 53 (ix a1)) + 1))
          else none
          else none
        else
          some (wr w6.2 56 (ix (M 50 (ix a1))) (if 0 < ((w3.2 56 (ix (M 50 (ix a1)))) - w6.1) then ((w3.2 56 (ix (M 50 (ix a1)))) - w6.1) else 0))
        else none
        else none
        else none
      else
        (fY_nextLaid (M 50 (ix a1)) w3.1 w3.2).bind fun w7 =>
        if w7.1 = (-1) then
          fD_turn_b238 a1 w7.2
        else
          if w7.1 = a3 then
            (fA_dares ((ix (M 45 0)) + 5 + 2 * ix a1) a2 w7.2).bind fun w8 =>
            if w8.1 = 0 then
              fD_turn_b238 a1 w8.2
            else
              fD_turn_b207 a1 a2 ((ix (M 45 0)) + 5 + 2 * ix a1) w7.1 w8.2
          else
            fD_turn_b207 a1 a2 ((ix (M 45 0)) + 5 + 2 * ix a1) w7.1 w7.2
  else
    if ib a1 4 then
    if ib a1 4 then
    if ib a1 4 then
    if ((wr w3.2 52 (ix a1) ((w3.2 52 (ix a1)) - 1)) 52 (ix a1)) = 0 then
      if ib a1 4 then
      if ib a1 4 then
      some (wr (wr w3.2 52 (ix a1) ((w3.2 52 (ix a1)) - 1)) 50 (ix a1) ((wr w3.2 52 (ix a1) ((w3.2 52 (ix a1)) - 1)) 51 (ix a1)))
      else none
      else none
    else
      some (wr w3.2 52 (ix a1) ((w3.2 52 (ix a1)) - 1))
    else none
    else none
    else none
  else none
  else none
  else none
  else none
  else none
def fH_masterIn_b40 (q0 : Nat) : Nat → Int32 → Int32 → Mem → Option (Int32 × Mem)
  | 0, _, _, _ => none
  | z + 1, a3, a4, M =>
    if (M q0 1) ≤ a4 then
      some ((-1), M)
    else
      if ib a4 8 then
      if (M (q0 + 2) (ix a4)) ≤ a3 then
        if ib a4 8 then
        fH_masterIn_b40 q0 z (a3 - (M (q0 + 2) (ix a4))) (a4 + 1) M
        else none
      else
        if ib a4 8 then
        some ((M (q0 + 1) (ix a4)), M)
        else none
      else none
def fH_masterIn_b4 (q0 : Nat) (a1 : Int32) : Nat → Int32 → Int32 → Mem → Option (Int32 × Mem)
  | 0, _, _, _ => none
  | z + 1, a2, a3, M =>
    if (M q0 1) ≤ a3 then
      if 0 < a2 then
        if a2 = 0 then none else
        fH_masterIn_b40 q0 1000 (a1 - a1 / a2 * a2) 0 M
      else
        some ((-1), M)
    else
      if ib a3 8 then
      fH_masterIn_b4 q0 a1 z (a2 + (M (q0 + 2) (ix a3))) (a3 + 1) M
      else none
def fH_masterIn (q0 : Nat) (a1 : Int32) (M : Mem) : Option (Int32 × Mem) :=
  fH_masterIn_b4 q0 a1 1000 0 0 M
def fD_pass_b11 (a1 : Int32) (a2 : Int32) : Nat → Int32 → Mem → Option (Mem)
  | 0, _, _ => none
  | z + 1, a3, M =>
    if hOK (ix (M 45 0)) then
    if (M (ix (M 45 0)) 2) ≤ a3 then
      if (M 45 14) = (-1) then
        (fD_isAllDone M).bind fun w4 =>
        if w4.1 = 0 then
          some w4.2
        else
          some (wr w4.2 45 14 a1)
      else
        some M
    else
      (fD_turn a3 a1 a2 M).bind fun M5 =>
      fD_pass_b11 a1 a2 z (a3 + 1) M5
    else none
def fD_pass (a1 : Int32) (M : Mem) : Option (Mem) :=
  if hOK (ix (M 45 0)) then
  (fH_masterIn (ix (M 45 0)) a1 M).bind fun w2 =>
  fD_pass_b11 a1 w2.1 1000 0 w2.2
  else none
def fY_far_b67 (a4 : Int32) (M : Mem) : Option (Int32 × Mem) :=
  some (a4, M)
def fY_far_b48 (a0 : Int32) (a3 : Int32) (a4 : Int32) (M : Mem) : Option (Int32 × Mem) :=
  if (a0 &&& 2) = 0 then
    fY_far_b67 a4 M
  else
    fY_far_b67 (if ((6 - a3) + 1) < a4 then ((6 - a3) + 1) else a4) M
def fY_far (a0 : Int32) (a1 : Int32) (a2 : Int32) (M : Mem) : Option (Int32 × Mem) :=
  if (a1 / 4) = (a2 / 4) then
    some ((if 0 ≤ ((a1 - a1 / 4 * 4) - (a2 - a2 / 4 * 4)) then ((a1 - a1 / 4 * 4) - (a2 - a2 / 4 * 4)) else 0 - ((a1 - a1 / 4 * 4) - (a2 - a2 / 4 * 4))), M)
  else
    if (a0 &&& 1) = 0 then
      fY_far_b48 a0 ((a1 - a1 / 4 * 4) + (a2 - a2 / 4 * 4)) 8 M
    else
      fY_far_b48 a0 ((a1 - a1 / 4 * 4) + (a2 - a2 / 4 * 4)) (if (((a1 - a1 / 4 * 4) + (a2 - a2 / 4 * 4)) + 1) < 8 then (((a1 - a1 / 4 * 4) + (a2 - a2 / 4 * 4)) + 1) else 8) M
def fY_nextRoom_b62 (a3 : Int32) (M : Mem) : Option (Int32 × Mem) :=
  some (a3, M)
def fY_nextRoom_b56 (k9 : Int32 → Int32 → Int32 → Mem → Option (Int32 × Mem)) (a0 : Int32) (a1 : Int32) (a2 : Int32) (a3 : Int32) (a4 : Int32) (a5 : Int32) (M : Mem) : Option (Int32 × Mem) :=
  k9 a3 a4 (a5 + 1) M
def fY_nextRoom_b9 (a0 : Int32) (a1 : Int32) (a2 : Int32) : Nat → Int32 → Int32 → Int32 → Mem → Option (Int32 × Mem)
  | 0, _, _, _, _ => none
  | z + 1, a3, a4, a5, M =>
    if 8 ≤ a5 then
      fY_nextRoom_b62 a3 M
    else
      if a1 = a2 then
        fY_nextRoom_b62 a3 M
      else
        (fY_far a0 a1 a5 M).bind fun w1 =>
        if w1.1 = 1 then
          (fY_far a0 a5 a2 w1.2).bind fun w2 =>
          if a4 ≤ w2.1 then
            fY_nextRoom_b56 (fY_nextRoom_b9 a0 a1 a2 z) a0 a1 a2 a3 a4 a5 w2.2
          else
            (fY_far a0 a5 a2 w2.2).bind fun w3 =>
            fY_nextRoom_b56 (fY_nextRoom_b9 a0 a1 a2 z) a0 a1 a2 a5 w3.1 a5 w3.2
        else
          fY_nextRoom_b56 (fY_nextRoom_b9 a0 a1 a2 z) a0 a1 a2 a3 a4 a5 w1.2
def fY_nextRoom (a0 : Int32) (a1 : Int32) (a2 : Int32) (M : Mem) : Option (Int32 × Mem) :=
  fY_nextRoom_b9 a0 a1 a2 1000 (-1) 8 0 M
def fY_lay_b11 (a1 : Int32) : Nat → Int32 → Mem → Option (Mem)
  | 0, _, _ => none
  | z + 1, a2, M =>
    if 64 ≤ a2 then
      some (wr M 46 1 a1)
    else
      (fY_nextRoom a1 (a2 / 8) (a2 - a2 / 8 * 8) M).bind fun w1 =>
      if ib a2 64 then
      fY_lay_b11 a1 z (a2 + 1) (wr w1.2 47 (ix a2) w1.1)
      else none
def fY_lay (a1 : Int32) (M : Mem) : Option (Mem) :=
  if (M 46 1) = a1 then
    some M
  else
    fY_lay_b11 a1 1000 0 M
def fD_start_b116 (k54 : Int32 → Mem → Option (Mem)) (a2 : Int32) (q3 : Nat) : Nat → Int32 → Mem → Option (Mem)
  | 0, _, _ => none
  | z + 1, a4, M =>
    if (M q3 3) ≤ a4 then
      k54 (a2 + 1) M
    else
      if ib a4 5 then
      fD_start_b116 k54 a2 q3 z (a4 + 1) (wr M 45 12 ((M 45 12) ||| (1 <<< ((M (q3 + 1) (ix a4)) &&& 31))))
      else none
def fD_start_b54 : Nat → Int32 → Mem → Option (Mem)
  | 0, _, _ => none
  | z + 1, a2, M =>
    if hOK (ix (M 45 0)) then
    if (M (ix (M 45 0)) 2) ≤ a2 then
      some M
    else
      if hOK (ix (M 45 0)) then
      if ib a2 4 then
      if ib a2 4 then
      if ib a2 4 then
      if ib a2 4 then
      if ib a2 4 then
      if ib a2 4 then
      fD_start_b116 (fD_start_b54 z) a2 ((ix (M 45 0)) + 5 + 2 * ix a2) 1000 0 (wr (wr (wr (wr (wr M 50 (ix a2) (M ((ix (M 45 0)) + 5 + 2 * ix a2) 2)) 52 (ix a2) 0) 53 (ix a2) 0) 54 (ix a2) 0) 55 (ix a2) 0)
      else none
      else none
      else none
      else none
      else none
      else none
      else none
    else none
def fD_start (q1 : Nat) (M : Mem) : Option (Mem) :=
  if hOK (ix ((wr M 45 0 (nI q1)) 45 0)) then
  (fY_lay ((wr M 45 0 (nI q1)) (ix ((wr M 45 0 (nI q1)) 45 0)) 0) (wr M 45 0 (nI q1))).bind fun M2 =>
  if hOK (ix (M2 45 0)) then
  if 0 ≤ (0 : Int32).toInt ∧ 0 ≤ (0 : Int32).toInt ∧ 0 ≤ (8 : Int32).toInt ∧ (0 : Int32).toInt + (8 : Int32).toInt ≤ 8 ∧ (0 : Int32).toInt + (8 : Int32).toInt ≤ 8 then
  fD_start_b54 1000 0 (wr (wr (wr (wrR M2 56 (va_cpy (M2 ((ix (M2 45 0)) + 3)) (M2 56) (ix 0) (ix 0) (ix 8))) 45 12 0) 45 13 0) 45 14 (-1))
  else none
  else none
  else none
def fD_run_b7 (a2 : Int32) : Nat → Int32 → Mem → Option (Mem)
  | 0, _, _ => none
  | z + 1, a3, M =>
    if a2 ≤ a3 then
      some M
    else
      (fD_pass a3 M).bind fun M2 =>
      fD_run_b7 a2 z (a3 + 1) M2
def fD_run (q1 : Nat) (a2 : Int32) (M : Mem) : Option (Mem) :=
  (fD_start q1 M).bind fun M1 =>
  fD_run_b7 a2 1000 0 M1
def fN_sum_b4 (q0 : Nat) : Nat → Int32 → Int32 → Mem → Option (Int32 × Mem)
  | 0, _, _, _ => none
  | z + 1, a1, a2, M =>
    if (Int32.ofNat 8) ≤ a2 then
      some (a1, M)
    else
      if ib a2 8 then
      fN_sum_b4 q0 z (a1 + (M q0 (ix a2))) (a2 + 1) M
      else none
def fN_sum (q0 : Nat) (M : Mem) : Option (Int32 × Mem) :=
  fN_sum_b4 q0 1000 0 0 M
def fD_workLeft (M : Mem) : Option (Int32 × Mem) :=
  (fN_sum 56 M).bind fun w1 =>
  some (w1.1, w1.2)
def fD_dear (M : Mem) : Option (Int32 × Mem) :=
  (fN_sum 56 M).bind fun w1 =>
  some ((w1.1 + (w1.2 45 13)), w1.2)
def fD_isAnySeen_b2 : Nat → Int32 → Mem → Option (Int32 × Mem)
  | 0, _, _ => none
  | z + 1, a1, M =>
    if hOK (ix (M 45 0)) then
    if (M (ix (M 45 0)) 2) ≤ a1 then
      some (0, M)
    else
      if ib a1 4 then
      if (M 54 (ix a1)) ≤ 0 then
        fD_isAnySeen_b2 z (a1 + 1) M
      else
        some (1, M)
      else none
    else none
def fD_isAnySeen (M : Mem) : Option (Int32 × Mem) :=
  fD_isAnySeen_b2 1000 0 M
def fD_ofMaid (a1 : Int32) (a2 : Int32) (M : Mem) : Option (Int32 × Mem) :=
  if hOK (ix (M 45 0)) then
  (fN_within a1 (M (ix (M 45 0)) 2) M).bind fun w2 =>
  if w2.1 = 0 then
    some ((-2), w2.2)
  else
    if a2 = 1 then
      if ib a1 4 then
      some ((w2.2 50 (ix a1)), w2.2)
      else none
    else
    if a2 = 2 then
      if ib a1 4 then
      some ((w2.2 54 (ix a1)), w2.2)
      else none
    else
    if a2 = 3 then
      if ib a1 4 then
      some ((w2.2 55 (ix a1)), w2.2)
      else none
    else
      if hOK (ix (w2.2 45 0)) then
      if ib a1 4 then
      if ib a1 4 then
      (fA_roomListed ((ix (w2.2 45 0)) + 5 + 2 * ix a1) (w2.2 53 (ix a1)) w2.2).bind fun w8 =>
      some (w8.1, w8.2)
      else none
      else none
      else none
  else none
def fA_become (q0 : Nat) (q1 : Nat) (M : Mem) : Option (Mem) :=
  if 0 ≤ (0 : Int32).toInt ∧ 0 ≤ (0 : Int32).toInt ∧ 0 ≤ (5 : Int32).toInt ∧ (0 : Int32).toInt + (5 : Int32).toInt ≤ 5 ∧ (0 : Int32).toInt + (5 : Int32).toInt ≤ 5 then
  some (wrR (wr (wr (wr (wr M q0 0 (M q1 0)) q0 1 ((wr M q0 0 (M q1 0)) q1 1)) q0 2 ((wr (wr M q0 0 (M q1 0)) q0 1 ((wr M q0 0 (M q1 0)) q1 1)) q1 2)) q0 3 ((wr (wr (wr M q0 0 (M q1 0)) q0 1 ((wr M q0 0 (M q1 0)) q1 1)) q0 2 ((wr (wr M q0 0 (M q1 0)) q0 1 ((wr M q0 0 (M q1 0)) q1 1)) q1 2)) q1 3)) (q0 + 1) (va_cpy ((wr (wr (wr (wr M q0 0 (M q1 0)) q0 1 ((wr M q0 0 (M q1 0)) q1 1)) q0 2 ((wr (wr M q0 0 (M q1 0)) q0 1 ((wr M q0 0 (M q1 0)) q1 1)) q1 2)) q0 3 ((wr (wr (wr M q0 0 (M q1 0)) q0 1 ((wr M q0 0 (M q1 0)) q1 1)) q0 2 ((wr (wr M q0 0 (M q1 0)) q0 1 ((wr M q0 0 (M q1 0)) q1 1)) q1 2)) q1 3)) (q1 + 1)) ((wr (wr (wr (wr M q0 0 (M q1 0)) q0 1 ((wr M q0 0 (M q1 0)) q1 1)) q0 2 ((wr (wr M q0 0 (M q1 0)) q0 1 ((wr M q0 0 (M q1 0)) q1 1)) q1 2)) q0 3 ((wr (wr (wr M q0 0 (M q1 0)) q0 1 ((wr M q0 0 (M q1 0)) q1 1)) q0 2 ((wr (wr M q0 0 (M q1 0)) q0 1 ((wr M q0 0 (M q1 0)) q1 1)) q1 2)) q1 3)) (q0 + 1)) (ix 0) (ix 0) (ix 5)))
  else none
def fH_become_b79 (q0 : Nat) (q1 : Nat) : Nat → Int32 → Mem → Option (Mem)
  | 0, _, _ => none
  | z + 1, a2, M =>
    if 4 ≤ a2 then
      some M
    else
      if ib a2 4 then
      if ib a2 4 then
      (fA_become (q0 + 5 + 2 * ix a2) (q1 + 5 + 2 * ix a2) M).bind fun M3 =>
      fH_become_b79 q0 q1 z (a2 + 1) M3
      else none
      else none
def fH_become (q0 : Nat) (q1 : Nat) (M : Mem) : Option (Mem) :=
  if 0 ≤ (0 : Int32).toInt ∧ 0 ≤ (0 : Int32).toInt ∧ 0 ≤ (8 : Int32).toInt ∧ (0 : Int32).toInt + (8 : Int32).toInt ≤ 8 ∧ (0 : Int32).toInt + (8 : Int32).toInt ≤ 8 then
  if 0 ≤ (0 : Int32).toInt ∧ 0 ≤ (0 : Int32).toInt ∧ 0 ≤ (8 : Int32).toInt ∧ (0 : Int32).toInt + (8 : Int32).toInt ≤ 8 ∧ (0 : Int32).toInt + (8 : Int32).toInt ≤ 8 then
  if 0 ≤ (0 : Int32).toInt ∧ 0 ≤ (0 : Int32).toInt ∧ 0 ≤ (8 : Int32).toInt ∧ (0 : Int32).toInt + (8 : Int32).toInt ≤ 8 ∧ (0 : Int32).toInt + (8 : Int32).toInt ≤ 8 then
  fH_become_b79 q0 q1 1000 0 (wrR (wrR (wrR (wr (wr (wr (wr M q0 0 (M q1 0)) q0 1 ((wr M q0 0 (M q1 0)) q1 1)) q0 2 ((wr (wr M q0 0 (M q1 0)) q0 1 ((wr M q0 0 (M q1 0)) q1 1)) q1 2)) q0 3 ((wr (wr (wr M q0 0 (M q1 0)) q0 1 ((wr M q0 0 (M q1 0)) q1 1)) q0 2 ((wr (wr M q0 0 (M q1 0)) q0 1 ((wr M q0 0 (M q1 0)) q1 1)) q1 2)) q1 3)) (q0 + 1) (va_cpy ((wr (wr (wr (wr M q0 0 (M q1 0)) q0 1 ((wr M q0 0 (M q1 0)) q1 1)) q0 2 ((wr (wr M q0 0 (M q1 0)) q0 1 ((wr M q0 0 (M q1 0)) q1 1)) q1 2)) q0 3 ((wr (wr (wr M q0 0 (M q1 0)) q0 1 ((wr M q0 0 (M q1 0)) q1 1)) q0 2 ((wr (wr M q0 0 (M q1 0)) q0 1 ((wr M q0 0 (M q1 0)) q1 1)) q1 2)) q1 3)) (q1 + 1)) ((wr (wr (wr (wr M q0 0 (M q1 0)) q0 1 ((wr M q0 0 (M q1 0)) q1 1)) q0 2 ((wr (wr M q0 0 (M q1 0)) q0 1 ((wr M q0 0 (M q1 0)) q1 1)) q1 2)) q0 3 ((wr (wr (wr M q0 0 (M q1 0)) q0 1 ((wr M q0 0 (M q1 0)) q1 1)) q0 2 ((wr (wr M q0 0 (M q1 0)) q0 1 ((wr M q0 0 (M q1 0)) q1 1)) q1 2)) q1 3)) (q0 + 1)) (ix 0) (ix 0) (ix 8))) (q0 + 2) (va_cpy ((wrR (wr (wr (wr (wr M q0 0 (M q1 0)) q0 1 ((wr M q0 0 (M q1 0)) q1 1)) q0 2 ((wr (wr M q0 0 (M q1 0)) q0 1 ((wr M q0 0 (M q1 0)) q1 1)) q1 2)) q0 3 ((wr (wr (wr M q0 0 (M q1 0)) q0 1 ((wr M q0 0 (M q1 0)) q1 1)) q0 2 ((wr (wr M q0 0 (M q1 0)) q0 1 ((wr M q0 0 (M q1 0)) q1 1)) q1 2)) q1 3)) (q0 + 1) (va_cpy ((wr (wr (wr (wr M q0 0 (M q1 0)) q0 1 ((wr M q0 0 (M q1 0)) q1 1)) q0 2 ((wr (wr M q0 0 (M q1 0)) q0 1 ((wr M q0 0 (M q1 0)) q1 1)) q1 2)) q0 3 ((wr (wr (wr M q0 0 (M q1 0)) q0 1 ((wr M q0 0 (M q1 0)) q1 1)) q0 2 ((wr (wr M q0 0 (M q1 0)) q0 1 ((wr M q0 0 (M q1 0)) q1 1)) q1 2)) q1 3)) (q1 + 1)) ((wr (wr (wr (wr M q0 0 (M q1 0)) q0 1 ((wr M q0 0 (M q1 0)) q1 1)) q0 2 ((wr (wr M q0 0 (M q1 0)) q0 1 ((wr M q0 0 (M q1 0)) q1 1)) q1 2)) q0 3 ((wr (wr (wr M q0 0 (M q1 0)) q0 1 ((wr M q0 0 (M q1 0)) q1 1)) q0 2 ((wr (wr M q0 0 (M q1 0)) q0 1 ((wr M q0 0 (M q1 0)) q1 1)) q1 2)) q1 3)) (q0 + 1)) (ix 0) (ix 0) (ix 8))) (q1 + 2)) ((wrR (wr (wr (wr (wr M q0 0 (M q1 0)) q0 1 ((wr M q0 0 (M q1 0)) q1 1)) q0 2 ((wr (wr M q0 0 (M q1 0)) q0 1 ((wr M q0 0 (M q1 0)) q1 1)) q1 2)) q0 3 ((wr (wr (wr M q0 0 (M q1 0)) q0 1 ((wr M q0 0 (M q1 0)) q1 1)) q0 2 ((wr (wr M q0 0 (M q1 0)) q0 1 ((wr M q0 0 (M q1 0)) q1 1)) q1 2)) q1 3)) (q0 + 1) (va_cpy ((wr (wr (wr (wr M q0 0 (M q1 0)) q0 1 ((wr M q0 0 (M q1 0)) q1 1)) q0 2 ((wr (wr M q0 0 (M q1 0)) q0 1 ((wr M q0 0 (M q1 0)) q1 1)) q1 2)) q0 3 ((wr (wr (wr M q0 0 (M q1 0)) q0 1 ((wr M q0 0 (M q1 0)) q1 1)) q0 2 ((wr (wr M q0 0 (M q1 0)) q0 1 ((wr M q0 0 (M q1 0)) q1 1)) q1 2)) q1 3)) (q1 + 1)) ((wr (wr (wr (wr M q0 0 (M q1 0)) q0 1 ((wr M q0 0 (M q1 0)) q1 1)) q0 2 ((wr (wr M q0 0 (M q1 0)) q0 1 ((wr M q0 0 (M q1 0)) q1 1)) q1 2)) q0 3 ((wr (wr (wr M q0 0 (M q1 0)) q0 1 ((wr M q0 0 (M q1 0)) q1 1)) q0 2 ((wr (wr M q0 0 (M q1 0)) q0 1 ((wr M q0 0 (M q1 0)) q1 1)) q1 2)) q1 3)) (q0 + 1)) (ix 0) (ix 0) (ix 8))) (q0 + 2)) (ix 0) (ix 0) (ix 8))) (q0 + 3) (va_cpy ((wrR (wrR (wr (wr (wr (wr M q0 0 (M q1 0)) q0 1 ((wr M q0 0 (M q1 0)) q1 1)) q0 2 ((wr (wr M q0 0 (M q1 0)) q0 1 ((wr M q0 0 (M q1 0)) q1 1)) q1 2)) q0 3 ((wr (wr (wr M q0 0 (M q1 0)) q0 1 ((wr M q0 0 (M q1 0)) q1 1)) q0 2 ((wr (wr M q0 0 (M q1 0)) q0 1 ((wr M q0 0 (M q1 0)) q1 1)) q1 2)) q1 3)) (q0 + 1) (va_cpy ((wr (wr (wr (wr M q0 0 (M q1 0)) q0 1 ((wr M q0 0 (M q1 0)) q1 1)) q0 2 ((wr (wr M q0 0 (M q1 0)) q0 1 ((wr M q0 0 (M q1 0)) q1 1)) q1 2)) q0 3 ((wr (wr (wr M q0 0 (M q1 0)) q0 1 ((wr M q0 0 (M q1 0)) q1 1)) q0 2 ((wr (wr M q0 0 (M q1 0)) q0 1 ((wr M q0 0 (M q1 0)) q1 1)) q1 2)) q1 3)) (q1 + 1)) ((wr (wr (wr (wr M q0 0 (M q1 0)) q0 1 ((wr M q0 0 (M q1 0)) q1 1)) q0 2 ((wr (wr M q0 0 (M q1 0)) q0 1 ((wr M q0 0 (M q1 0)) q1 1)) q1 2)) q0 3 ((wr (wr (wr M q0 0 (M q1 0)) q0 1 ((wr M q0 0 (M q1 0)) q1 1)) q0 2 ((wr (wr M q0 0 (M q1 0)) q0 1 ((wr M q0 0 (M q1 0)) q1 1)) q1 2)) q1 3)) (q0 + 1)) (ix 0) (ix 0) (ix 8))) (q0 + 2) (va_cpy ((wrR (wr (wr (wr (wr M q0 0 (M q1 0)) q0 1 ((wr M q0 0 (M q1 0)) q1 1)) q0 2 ((wr (wr M q0 0 (M q1 0)) q0 1 ((wr M q0 0 (M q1 0)) q1 1)) q1 2)) q0 3 ((wr (wr (wr M q0 0 (M q1 0)) q0 1 ((wr M q0 0 (M q1 0)) q1 1)) q0 2 ((wr (wr M q0 0 (M q1 0)) q0 1 ((wr M q0 0 (M q1 0)) q1 1)) q1 2)) q1 3)) (q0 + 1) (va_cpy ((wr (wr (wr (wr M q0 0 (M q1 0)) q0 1 ((wr M q0 0 (M q1 0)) q1 1)) q0 2 ((wr (wr M q0 0 (M q1 0)) q0 1 ((wr M q0 0 (M q1 0)) q1 1)) q1 2)) q0 3 ((wr (wr (wr M q0 0 (M q1 0)) q0 1 ((wr M q0 0 (M q1 0)) q1 1)) q0 2 ((wr (wr M q0 0 (M q1 0)) q0 1 ((wr M q0 0 (M q1 0)) q1 1)) q1 2)) q1 3)) (q1 + 1)) ((wr (wr (wr (wr M q0 0 (M q1 0)) q0 1 ((wr M q0 0 (M q1 0)) q1 1)) q0 2 ((wr (wr M q0 0 (M q1 0)) q0 1 ((wr M q0 0 (M q1 0)) q1 1)) q1 2)) q0 3 ((wr (wr (wr M q0 0 (M q1 0)) q0 1 ((wr M q0 0 (M q1 0)) q1 1)) q0 2 ((wr (wr M q0 0 (M q1 0)) q0 1 ((wr M q0 0 (M q1 0)) q1 1)) q1 2)) q1 3)) (q0 + 1)) (ix 0) (ix 0) (ix 8))) (q1 + 2)) ((wrR (wr (wr (wr (wr M q0 0 (M q1 0)) q0 1 ((wr M q0 0 (M q1 0)) q1 1)) q0 2 ((wr (wr M q0 0 (M q1 0)) q0 1 ((wr M q0 0 (M q1 0)) q1 1)) q1 2)) q0 3 ((wr (wr (wr M q0 0 (M q1 0)) q0 1 ((wr M q0 0 (M q1 0)) q1 1)) q0 2 ((wr (wr M q0 0 (M q1 0)) q0 1 ((wr M q0 0 (M q1 0)) q1 1)) q1 2)) q1 3)) (q0 + 1) (va_cpy ((wr (wr (wr (wr M q0 0 (M q1 0)) q0 1 ((wr M q0 0 (M q1 0)) q1 1)) q0 2 ((wr (wr M q0 0 (M q1 0)) q0 1 ((wr M q0 0 (M q1 0)) q1 1)) q1 2)) q0 3 ((wr (wr (wr M q0 0 (M q1 0)) q0 1 ((wr M q0 0 (M q1 0)) q1 1)) q0 2 ((wr (wr M q0 0 (M q1 0)) q0 1 ((wr M q0 0 (M q1 0)) q1 1)) q1 2)) q1 3)) (q1 + 1)) ((wr (wr (wr (wr M q0 0 (M q1 0)) q0 1 ((wr M q0 0 (M q1 0)) q1 1)) q0 2 ((wr (wr M q0 0 (M q1 0)) q0 1 ((wr M q0 0 (M q1 0)) q1 1)) q1 2)) q0 3 ((wr (wr (wr M q0 0 (M q1 0)) q0 1 ((wr M q0 0 (M q1 0)) q1 1)) q0 2 ((wr (wr M q0 0 (M q1 0)) q0 1 ((wr M q0 0 (M q1 0)) q1 1)) q1 2)) q1 3)) (q0 + 1)) (ix 0) (ix 0) (ix 8))) (q0 + 2)) (ix 0) (ix 0) (ix 8))) (q1 + 3)) ((wrR (wrR (wr (wr (wr (wr M q0 0 (M q1 0)) q0 1 ((wr M q0 0 (M q1 0)) q1 1)) q0 2 ((wr (wr M q0 0 (M q1 0)) q0 1 ((wr M q0 0 (M q1 0)) q1 1)) q1 2)) q0 3 ((wr (wr (wr M q0 0 (M q1 0)) q0 1 ((wr M q0 0 (M q1 0)) q1 1)) q0 2 ((wr (wr M q0 0 (M q1 0)) q0 1 ((wr M q0 0 (M q1 0)) q1 1)) q1 2)) q1 3)) (q0 + 1) (va_cpy ((wr (wr (wr (wr M q0 0 (M q1 0)) q0 1 ((wr M q0 0 (M q1 0)) q1 1)) q0 2 ((wr (wr M q0 0 (M q1 0)) q0 1 ((wr M q0 0 (M q1 0)) q1 1)) q1 2)) q0 3 ((wr (wr (wr M q0 0 (M q1 0)) q0 1 ((wr M q0 0 (M q1 0)) q1 1)) q0 2 ((wr (wr M q0 0 (M q1 0)) q0 1 ((wr M q0 0 (M q1 0)) q1 1)) q1 2)) q1 3)) (q1 + 1)) ((wr (wr (wr (wr M q0 0 (M q1 0)) q0 1 ((wr M q0 0 (M q1 0)) q1 1)) q0 2 ((wr (wr M q0 0 (M q1 0)) q0 1 ((wr M q0 0 (M q1 0)) q1 1)) q1 2)) q0 3 ((wr (wr (wr M q0 0 (M q1 0)) q0 1 ((wr M q0 0 (M q1 0)) q1 1)) q0 2 ((wr (wr M q0 0 (M q1 0)) q0 1 ((wr M q0 0 (M q1 0)) q1 1)) q1 2)) q1 3)) (q0 + 1)) (ix 0) (ix 0) (ix 8))) (q0 + 2) (va_cpy ((wrR (wr (wr (wr (wr M q0 0 (M q1 0)) q0 1 ((wr M q0 0 (M q1 0)) q1 1)) q0 2 ((wr (wr M q0 0 (M q1 0)) q0 1 ((wr M q0 0 (M q1 0)) q1 1)) q1 2)) q0 3 ((wr (wr (wr M q0 0 (M q1 0)) q0 1 ((wr M q0 0 (M q1 0)) q1 1)) q0 2 ((wr (wr M q0 0 (M q1 0)) q0 1 ((wr M q0 0 (M q1 0)) q1 1)) q1 2)) q1 3)) (q0 + 1) (va_cpy ((wr (wr (wr (wr M q0 0 (M q1 0)) q0 1 ((wr M q0 0 (M q1 0)) q1 1)) q0 2 ((wr (wr M q0 0 (M q1 0)) q0 1 ((wr M q0 0 (M q1 0)) q1 1)) q1 2)) q0 3 ((wr (wr (wr M q0 0 (M q1 0)) q0 1 ((wr M q0 0 (M q1 0)) q1 1)) q0 2 ((wr (wr M q0 0 (M q1 0)) q0 1 ((wr M q0 0 (M q1 0)) q1 1)) q1 2)) q1 3)) (q1 + 1)) ((wr (wr (wr (wr M q0 0 (M q1 0)) q0 1 ((wr M q0 0 (M q1 0)) q1 1)) q0 2 ((wr (wr M q0 0 (M q1 0)) q0 1 ((wr M q0 0 (M q1 0)) q1 1)) q1 2)) q0 3 ((wr (wr (wr M q0 0 (M q1 0)) q0 1 ((wr M q0 0 (M q1 0)) q1 1)) q0 2 ((wr (wr M q0 0 (M q1 0)) q0 1 ((wr M q0 0 (M q1 0)) q1 1)) q1 2)) q1 3)) (q0 + 1)) (ix 0) (ix 0) (ix 8))) (q1 + 2)) ((wrR (wr (wr (wr (wr M q0 0 (M q1 0)) q0 1 ((wr M q0 0 (M q1 0)) q1 1)) q0 2 ((wr (wr M q0 0 (M q1 0)) q0 1 ((wr M q0 0 (M q1 0)) q1 1)) q1 2)) q0 3 ((wr (wr (wr M q0 0 (M q1 0)) q0 1 ((wr M q0 0 (M q1 0)) q1 1)) q0 2 ((wr (wr M q0 0 (M q1 0)) q0 1 ((wr M q0 0 (M q1 0)) q1 1)) q1 2)) q1 3)) (q0 + 1) (va_cpy ((wr (wr (wr (wr M q0 0 (M q1 0)) q0 1 ((wr M q0 0 (M q1 0)) q1 1)) q0 2 ((wr (wr M q0 0 (M q1 0)) q0 1 ((wr M q0 0 (M q1 0)) q1 1)) q1 2)) q0 3 ((wr (wr (wr M q0 0 (M q1 0)) q0 1 ((wr M q0 0 (M q1 0)) q1 1)) q0 2 ((wr (wr M q0 0 (M q1 0)) q0 1 ((wr M q0 0 (M q1 0)) q1 1)) q1 2)) q1 3)) (q1 + 1)) ((wr (wr (wr (wr M q0 0 (M q1 0)) q0 1 ((wr M q0 0 (M q1 0)) q1 1)) q0 2 ((wr (wr M q0 0 (M q1 0)) q0 1 ((wr M q0 0 (M q1 0)) q1 1)) q1 2)) q0 3 ((wr (wr (wr M q0 0 (M q1 0)) q0 1 ((wr M q0 0 (M q1 0)) q1 1)) q0 2 ((wr (wr M q0 0 (M q1 0)) q0 1 ((wr M q0 0 (M q1 0)) q1 1)) q1 2)) q1 3)) (q0 + 1)) (ix 0) (ix 0) (ix 8))) (q0 + 2)) (ix 0) (ix 0) (ix 8))) (q0 + 3)) (ix 0) (ix 0) (ix 8)))
  else none
  else none
  else none
def fH_put_b110 (q0 : Nat) (a1 : Int32) (a2 : Int32) (a3 : Int32) (M : Mem) : Option (Mem) :=
  if a1 = 5 then
    (fN_within a2 4 M).bind fun w5 =>
    if w5.1 = 0 then
      some w5.2
    else
      if ib a2 4 then
      some (wr w5.2 (q0 + 5 + 2 * ix a2) 2 a3)
      else none
  else
    some M
def fH_put_b84 (q0 : Nat) (a1 : Int32) (a2 : Int32) (a3 : Int32) (M : Mem) : Option (Mem) :=
  if a1 = 4 then
    (fN_within a2 4 M).bind fun w4 =>
    if w4.1 = 0 then
      fH_put_b110 q0 a1 a2 a3 w4.2
    else
      if ib a2 4 then
      some (wr w4.2 (q0 + 5 + 2 * ix a2) 1 a3)
      else none
  else
    fH_put_b110 q0 a1 a2 a3 M
def fH_put_b60 (q0 : Nat) (a1 : Int32) (a2 : Int32) (a3 : Int32) (M : Mem) : Option (Mem) :=
  if a1 = 3 then
    (fN_within a2 8 M).bind fun w3 =>
    if w3.1 = 0 then
      fH_put_b84 q0 a1 a2 a3 w3.2
    else
      if ib a2 8 then
      some (wr w3.2 (q0 + 2) (ix a2) a3)
      else none
  else
    fH_put_b84 q0 a1 a2 a3 M
def fH_put_b36 (q0 : Nat) (a1 : Int32) (a2 : Int32) (a3 : Int32) (M : Mem) : Option (Mem) :=
  if a1 = 2 then
    (fN_within a2 8 M).bind fun w2 =>
    if w2.1 = 0 then
      fH_put_b60 q0 a1 a2 a3 w2.2
    else
      if ib a2 8 then
      some (wr w2.2 (q0 + 1) (ix a2) a3)
      else none
  else
    fH_put_b60 q0 a1 a2 a3 M
def fH_put (q0 : Nat) (a1 : Int32) (a2 : Int32) (a3 : Int32) (M : Mem) : Option (Mem) :=
  if a1 = 0 then
    some (wr M q0 0 a3)
  else
    if a1 = 1 then
      (fN_within a2 8 M).bind fun w1 =>
      if w1.1 = 0 then
        fH_put_b36 q0 a1 a2 a3 w1.2
      else
        if ib a2 8 then
        some (wr w1.2 (q0 + 3) (ix a2) a3)
        else none
    else
      fH_put_b36 q0 a1 a2 a3 M
def fH_leaveOut_b2 (q0 : Nat) : Nat → Int32 → Mem → Option (Mem)
  | 0, _, _ => none
  | z + 1, a2, M =>
    if ((M q0 2) - 1) ≤ a2 then
      some (wr M q0 2 ((M q0 2) - 1))
    else
      if ib a2 4 then
      if ib (a2 + 1) 4 then
      (fA_become (q0 + 5 + 2 * ix a2) (q0 + 5 + 2 * ix (a2 + 1)) M).bind fun M3 =>
      fH_leaveOut_b2 q0 z (a2 + 1) M3
      else none
      else none
def fH_leaveOut (q0 : Nat) (a1 : Int32) (M : Mem) : Option (Mem) :=
  fH_leaveOut_b2 q0 1000 a1 M
def fH_draw_b4 (q0 : Nat) : Nat → Int32 → Int32 → Mem → Option (Mem)
  | 0, _, _, _ => none
  | z + 1, a2, a3, M =>
    if (M q0 1) ≤ a3 then
      some M
    else
      if ib a3 8 then
      fH_draw_b4 q0 z ((a2 * 1103515245) + 12345) (a3 + 1) (wr M (q0 + 2) (ix a3) ((((((a2 * 1103515245) + 12345).toUInt32 >>> ((9 : Int32).toUInt32 &&& Int32.toUInt32 31)).toInt32) - ((((a2 * 1103515245) + 12345).toUInt32 >>> ((9 : Int32).toUInt32 &&& Int32.toUInt32 31)).toInt32) / 50 * 50) + 1))
      else none
def fH_draw (q0 : Nat) (a1 : Int32) (M : Mem) : Option (Mem) :=
  fH_draw_b4 q0 1000 a1 0 M
def fA_arrive (q0 : Nat) (a1 : Int32) (a2 : Int32) (a3 : Int32) (M : Mem) : Option (Mem) :=
  some (wr (wr (wr (wr M q0 0 a1) q0 1 a2) q0 2 a3) q0 3 0)
def fA_isOfKind_b7 (a1 : Int32) : Nat → Int32 → Int32 → Mem → Option (Int32 × Mem)
  | 0, _, _, _ => none
  | z + 1, a2, a3, M =>
    if 6 ≤ a3 then
      some (0, M)
    else
      (fN_within a2 6 M).bind fun w1 =>
      if w1.1 = 0 then
        some (0, w1.2)
      else
        if a2 = a1 then
          some (1, w1.2)
        else
          if ib a2 6 then
          fA_isOfKind_b7 a1 z (([-1, 0, 0, 1, 2, 0] : List Int32).getD (ix a2) 0) (a3 + 1) w1.2
          else none
def fA_isOfKind (q0 : Nat) (a1 : Int32) (M : Mem) : Option (Int32 × Mem) :=
  fA_isOfKind_b7 a1 1000 (M q0 0) 0 M
def fR_add (a1 : Int32) (M : Mem) : Option (Int32 × Mem) :=
  if (M 40 1) < 160 then
    if ib (M 40 1) 160 then
    some (1, (wr (wr M 41 (ix (M 40 1)) a1) 40 1 (((wr M 41 (ix (M 40 1)) a1) 40 1) + 1)))
    else none
  else
    some (0, M)
def fR_isDigit (a0 : Int32) (M : Mem) : Option (Int32 × Mem) :=
  if a0 < 48 then
    some (0, M)
  else
    if 57 < a0 then
      some (0, M)
    else
      some (1, M)
def fR_isLetter (a0 : Int32) (M : Mem) : Option (Int32 × Mem) :=
  if a0 < 97 then
    some (0, M)
  else
    if 122 < a0 then
      some (0, M)
    else
      some (1, M)
def fR_isSign_b48 (M : Mem) : Option (Int32 × Mem) :=
  some (1, M)
def fR_isSign (a0 : Int32) (M : Mem) : Option (Int32 × Mem) :=
  if a0 = 40 then
    fR_isSign_b48 M
  else
    if a0 = 41 then
      fR_isSign_b48 M
    else
      if a0 = 59 then
        fR_isSign_b48 M
      else
        if a0 = 43 then
          fR_isSign_b48 M
        else
          if a0 = 45 then
            fR_isSign_b48 M
          else
            if a0 = 42 then
              fR_isSign_b48 M
            else
              if a0 = 60 then
                fR_isSign_b48 M
              else
                if a0 = 61 then
                  fR_isSign_b48 M
                else
                  some (0, M)
def fR_refuse_b16 (M : Mem) : Option (Mem) :=
  some (wr M 40 4 14)
def fR_refuse (M : Mem) : Option (Mem) :=
  if (M 40 6) = (-1) then
    fR_refuse_b16 (wr M 40 6 (M 40 2))
  else
    fR_refuse_b16 M
def fR_takeNumber_b68 (M : Mem) : Option (Mem) :=
  if (((wr M 40 4 12) 40 3) - ((wr M 40 4 12) 40 2)) ≤ 4 then
    some (wr M 40 4 12)
  else
    (fR_refuse (wr M 40 4 12)).bind fun M1 =>
    some M1
def fR_takeNumber_b5 : Nat → Mem → Option (Mem)
  | 0, _ => none
  | z + 1, M =>
    if (M 40 1) ≤ (M 40 3) then
      fR_takeNumber_b68 M
    else
      if ib (M 40 3) 160 then
      (fR_isDigit (M 41 (ix (M 40 3))) M).bind fun w2 =>
      if w2.1 = 0 then
        fR_takeNumber_b68 w2.2
      else
        if ib (w2.2 40 3) 160 then
        fR_takeNumber_b5 z (wr (wr w2.2 40 5 ((((w2.2 40 5) * 10) + (w2.2 41 (ix (w2.2 40 3)))) - 48)) 40 3 (((wr w2.2 40 5 ((((w2.2 40 5) * 10) + (w2.2 41 (ix (w2.2 40 3)))) - 48)) 40 3) + 1))
        else none
      else none
def fR_takeNumber (M : Mem) : Option (Mem) :=
  fR_takeNumber_b5 1000 (wr M 40 5 0)
def fR_isOnTape_b2 (a1 : Int32) (a2 : Int32) : Nat → Int32 → Mem → Option (Int32 × Mem)
  | 0, _, _ => none
  | z + 1, a3, M =>
    if a2 ≤ a3 then
      some (1, M)
    else
      if ib a3 65 then
      if ib (((M 40 2) + a3) - a1) 160 then
      if ((txByt.getD 1 []).getD (ix a3) 0) = (M 41 (ix (((M 40 2) + a3) - a1))) then
        fR_isOnTape_b2 a1 a2 z (a3 + 1) M
      else
        some (0, M)
      else none
      else none
def fR_isOnTape (a1 : Int32) (a2 : Int32) (M : Mem) : Option (Int32 × Mem) :=
  fR_isOnTape_b2 a1 a2 1000 a1 M
def fR_wordOnTape_b59 (k6 : Int32 → Int32 → Int32 → Mem → Option (Int32 × Mem)) (a1 : Int32) (a2 : Int32) (a3 : Int32) (M : Mem) : Option (Int32 × Mem) :=
  k6 a1 a2 (a3 + 1) M
def fR_wordOnTape_b52 (k6 : Int32 → Int32 → Int32 → Mem → Option (Int32 × Mem)) (a1 : Int32) (a3 : Int32) (M : Mem) : Option (Int32 × Mem) :=
  fR_wordOnTape_b59 k6 (a1 + 1) (a3 + 1) a3 M
def fR_wordOnTape_b6 : Nat → Int32 → Int32 → Int32 → Mem → Option (Int32 × Mem)
  | 0, _, _, _, _ => none
  | z + 1, a1, a2, a3, M =>
    if (Int32.ofNat (txLen.getD 1 0)) ≤ a3 then
      some (14, M)
    else
      if ib a3 65 then
      if ((txByt.getD 1 []).getD (ix a3) 0) = 32 then
        if (a3 - a2) = ((M 40 3) - (M 40 2)) then
          (fR_isOnTape a2 a3 M).bind fun w1 =>
          if w1.1 = 0 then
            fR_wordOnTape_b52 (fR_wordOnTape_b6 z) a1 a3 w1.2
          else
            some (a1, w1.2)
        else
          fR_wordOnTape_b52 (fR_wordOnTape_b6 z) a1 a3 M
      else
        fR_wordOnTape_b59 (fR_wordOnTape_b6 z) a1 a2 a3 M
      else none
def fR_wordOnTape (M : Mem) : Option (Int32 × Mem) :=
  fR_wordOnTape_b6 1000 0 0 0 M
def fR_takeWord_b39 (M : Mem) : Option (Mem) :=
  (fR_wordOnTape M).bind fun w1 =>
  if ((wr w1.2 40 4 w1.1) 40 4) = 14 then
    (fR_refuse (wr w1.2 40 4 w1.1)).bind fun M2 =>
    some M2
  else
    some (wr w1.2 40 4 w1.1)
def fR_takeWord_b0 : Nat → Mem → Option (Mem)
  | 0, _ => none
  | z + 1, M =>
    if (M 40 1) ≤ (M 40 3) then
      fR_takeWord_b39 M
    else
      if ib (M 40 3) 160 then
      (fR_isLetter (M 41 (ix (M 40 3))) M).bind fun w3 =>
      if w3.1 = 0 then
        fR_takeWord_b39 w3.2
      else
        fR_takeWord_b0 z (wr w3.2 40 3 ((w3.2 40 3) + 1))
      else none
def fR_takeWord (M : Mem) : Option (Mem) :=
  fR_takeWord_b0 1000 M
def fR_advance_b52 (M : Mem) : Option (Mem) :=
  if ((wr M 40 2 (M 40 3)) 40 2) < ((wr M 40 2 (M 40 3)) 40 1) then
    if ib ((wr M 40 2 (M 40 3)) 40 2) 160 then
    (fR_isLetter ((wr M 40 2 (M 40 3)) 41 (ix ((wr M 40 2 (M 40 3)) 40 2))) (wr M 40 2 (M 40 3))).bind fun w1 =>
    if w1.1 = 0 then
      if ib (w1.2 40 2) 160 then
      (fR_isDigit (w1.2 41 (ix (w1.2 40 2))) w1.2).bind fun w2 =>
      if w2.1 = 0 then
        if ib (w2.2 40 2) 160 then
        (fR_isSign (w2.2 41 (ix (w2.2 40 2))) w2.2).bind fun w3 =>
        if w3.1 = 0 then
          (fR_refuse w3.2).bind fun M4 =>
          some M4
        else
          if ib (w3.2 40 2) 160 then
          some (wr (wr w3.2 40 4 (w3.2 41 (ix (w3.2 40 2)))) 40 3 (((wr w3.2 40 4 (w3.2 41 (ix (w3.2 40 2)))) 40 3) + 1))
          else none
        else none
      else
        (fR_takeNumber w2.2).bind fun M5 =>
        some M5
      else none
    else
      (fR_takeWord w1.2).bind fun M6 =>
      some M6
    else none
  else
    some (wr (wr M 40 2 (M 40 3)) 40 4 13)
def fR_advance_b39 (k0 : Mem → Option (Mem)) (M : Mem) : Option (Mem) :=
  k0 (wr M 40 3 ((M 40 3) + 1))
def fR_advance_b0 : Nat → Mem → Option (Mem)
  | 0, _ => none
  | z + 1, M =>
    if (M 40 1) ≤ (M 40 3) then
      fR_advance_b52 M
    else
      if ib (M 40 3) 160 then
      if (M 41 (ix (M 40 3))) = 32 then
        fR_advance_b39 (fR_advance_b0 z) M
      else
        if ib (M 40 3) 160 then
        if (M 41 (ix (M 40 3))) = 10 then
          fR_advance_b39 (fR_advance_b0 z) M
        else
          fR_advance_b52 M
        else none
      else none
def fR_advance (M : Mem) : Option (Mem) :=
  fR_advance_b0 1000 M
def fR_expect (a1 : Int32) (M : Mem) : Option (Mem) :=
  if (M 40 4) = a1 then
    if a1 = 13 then
      some M
    else
      (fR_advance M).bind fun M1 =>
      some M1
  else
    (fR_refuse M).bind fun M2 =>
    some M2
def fR_write (a1 : Int32) (M : Mem) : Option (Mem) :=
  if 160 ≤ (M 40 9) then
    some M
  else
    if ib (M 40 9) 160 then
    some (wr (wr M 42 (ix (M 40 9)) a1) 40 9 (((wr M 42 (ix (M 40 9)) a1) 40 9) + 1))
    else none
def fR_readOne_b121 (rc : Nat → Int32 → Mem → Option Mem) (M : Mem) : Option (Mem) :=
  (fR_refuse M).bind fun M4 =>
  some M4
def fR_readOne_b87 (rc : Nat → Int32 → Mem → Option Mem) (a1 : Int32) (M : Mem) : Option (Mem) :=
  if (M 40 4) = 40 then
    if 5 ≤ a1 then
      fR_readOne_b121 rc M
    else
      (fR_advance M).bind fun M5 =>
      (rc 0 (a1 + 1) M5).bind fun M6 =>
      (fR_expect 41 M6).bind fun M7 =>
      some M7
  else
    fR_readOne_b121 rc M
def fR_readOne (rc : Nat → Int32 → Mem → Option Mem) (a1 : Int32) (M : Mem) : Option (Mem) :=
  if (M 40 4) = 12 then
    (fR_write (M 40 5) M).bind fun M1 =>
    (fR_advance M1).bind fun M2 =>
    some M2
  else
    (fN_within (M 40 4) 6 M).bind fun w3 =>
    if w3.1 = 0 then
      if (w3.2 40 4) = 45 then
        if 5 ≤ a1 then
          fR_readOne_b87 rc a1 w3.2
        else
          (fR_advance w3.2).bind fun M8 =>
          (rc 5 (a1 + 1) M8).bind fun M9 =>
          (fR_write (-12) M9).bind fun M10 =>
          some M10
      else
        fR_readOne_b87 rc a1 w3.2
    else
      (fR_write ((-1) - (w3.2 40 4)) w3.2).bind fun M11 =>
      (fR_advance M11).bind fun M12 =>
      some M12
def fR_readTerm_b7 (rc : Nat → Int32 → Mem → Option Mem) (a1 : Int32) : Nat → Int32 → Mem → Option (Mem)
  | 0, _, _ => none
  | z + 1, a2, M =>
    if 160 ≤ a2 then
      some M
    else
      if (M 40 4) = 42 then
        (fR_advance M).bind fun M2 =>
        (rc 5 a1 M2).bind fun M3 =>
        (fR_write (-42) M3).bind fun M4 =>
        fR_readTerm_b7 rc a1 z (a2 + 1) M4
      else
        some M
def fR_readTerm (rc : Nat → Int32 → Mem → Option Mem) (a1 : Int32) (M : Mem) : Option (Mem) :=
  (rc 5 a1 M).bind fun M1 =>
  fR_readTerm_b7 rc a1 1000 0 M1
def fR_readSum_b32 (rc : Nat → Int32 → Mem → Option Mem) (k7 : Int32 → Mem → Option (Mem)) (a1 : Int32) (a2 : Int32) (M : Mem) : Option (Mem) :=
  (fR_advance M).bind fun M2 =>
  (rc 4 a1 M2).bind fun M3 =>
  (fR_write (-(M 40 4)) M3).bind fun M4 =>
  k7 (a2 + 1) M4
def fR_readSum_b7 (rc : Nat → Int32 → Mem → Option Mem) (a1 : Int32) : Nat → Int32 → Mem → Option (Mem)
  | 0, _, _ => none
  | z + 1, a2, M =>
    if 160 ≤ a2 then
      some M
    else
      if (M 40 4) = 43 then
        fR_readSum_b32 rc (fR_readSum_b7 rc a1 z) a1 a2 M
      else
        if (M 40 4) = 45 then
          fR_readSum_b32 rc (fR_readSum_b7 rc a1 z) a1 a2 M
        else
          some M
def fR_readSum (rc : Nat → Int32 → Mem → Option Mem) (a1 : Int32) (M : Mem) : Option (Mem) :=
  (rc 4 a1 M).bind fun M1 =>
  fR_readSum_b7 rc a1 1000 0 M1
def fR_readNot_b55 (rc : Nat → Int32 → Mem → Option Mem) (a1 : Int32) (M : Mem) : Option (Mem) :=
  (fR_advance M).bind fun M2 =>
  (rc 3 a1 M2).bind fun M3 =>
  (fR_write (-(M 40 4)) M3).bind fun M4 =>
  some M4
def fR_readNot_b32 (rc : Nat → Int32 → Mem → Option Mem) (a1 : Int32) (M : Mem) : Option (Mem) :=
  (rc 3 a1 M).bind fun M1 =>
  if (M1 40 4) = 60 then
    fR_readNot_b55 rc a1 M1
  else
    if (M1 40 4) = 61 then
      fR_readNot_b55 rc a1 M1
    else
      some M1
def fR_readNot (rc : Nat → Int32 → Mem → Option Mem) (a1 : Int32) (M : Mem) : Option (Mem) :=
  if (M 40 4) = 11 then
    if 5 ≤ a1 then
      fR_readNot_b32 rc a1 M
    else
      (fR_advance M).bind fun M5 =>
      (rc 2 (a1 + 1) M5).bind fun M6 =>
      (fR_write (-11) M6).bind fun M7 =>
      some M7
  else
    fR_readNot_b32 rc a1 M
def fR_readBoth_b7 (rc : Nat → Int32 → Mem → Option Mem) (a1 : Int32) : Nat → Int32 → Mem → Option (Mem)
  | 0, _, _ => none
  | z + 1, a2, M =>
    if 160 ≤ a2 then
      some M
    else
      if (M 40 4) = 10 then
        (fR_advance M).bind fun M2 =>
        (rc 2 a1 M2).bind fun M3 =>
        (fR_write (-10) M3).bind fun M4 =>
        fR_readBoth_b7 rc a1 z (a2 + 1) M4
      else
        some M
def fR_readBoth (rc : Nat → Int32 → Mem → Option Mem) (a1 : Int32) (M : Mem) : Option (Mem) :=
  (rc 2 a1 M).bind fun M1 =>
  fR_readBoth_b7 rc a1 1000 0 M1
def fR_readEither_b7 (rc : Nat → Int32 → Mem → Option Mem) (a1 : Int32) : Nat → Int32 → Mem → Option (Mem)
  | 0, _, _ => none
  | z + 1, a2, M =>
    if 160 ≤ a2 then
      some M
    else
      if (M 40 4) = 9 then
        (fR_advance M).bind fun M2 =>
        (rc 1 a1 M2).bind fun M3 =>
        (fR_write (-9) M3).bind fun M4 =>
        fR_readEither_b7 rc a1 z (a2 + 1) M4
      else
        some M
def fR_readEither (rc : Nat → Int32 → Mem → Option Mem) (a1 : Int32) (M : Mem) : Option (Mem) :=
  (rc 1 a1 M).bind fun M1 =>
  fR_readEither_b7 rc a1 1000 0 M1
def f_rR : Nat → Nat → Int32 → Mem → Option Mem
  | 0, _, _, _ => none
  | d + 1, w, a, M =>
    if w = 0 then fR_readEither (f_rR d) a M else if w = 1 then fR_readBoth (f_rR d) a M else if w = 2 then fR_readNot (f_rR d) a M else if w = 3 then fR_readSum (f_rR d) a M else if w = 4 then fR_readTerm (f_rR d) a M else fR_readOne (f_rR d) a M
def fG_become (q0 : Nat) (M : Mem) : Option (Mem) :=
  if 0 ≤ (0 : Int32).toInt ∧ 0 ≤ (0 : Int32).toInt ∧ 0 ≤ (160 : Int32).toInt ∧ (0 : Int32).toInt + (160 : Int32).toInt ≤ 160 ∧ (0 : Int32).toInt + (160 : Int32).toInt ≤ 160 then
  if 0 ≤ (0 : Int32).toInt ∧ 0 ≤ (0 : Int32).toInt ∧ 0 ≤ (3 : Int32).toInt ∧ (0 : Int32).toInt + (3 : Int32).toInt ≤ 3 ∧ (0 : Int32).toInt + (3 : Int32).toInt ≤ 3 then
  some (wrR (wrR M (q0 + 1) (va_cpy (M 42) (M (q0 + 1)) (ix 0) (ix 0) (ix 160))) (q0 + 2) (va_cpy ((wrR M (q0 + 1) (va_cpy (M 42) (M (q0 + 1)) (ix 0) (ix 0) (ix 160))) 43) ((wrR M (q0 + 1) (va_cpy (M 42) (M (q0 + 1)) (ix 0) (ix 0) (ix 160))) (q0 + 2)) (ix 0) (ix 0) (ix 3)))
  else none
  else none
def fR_read_b87 (M : Mem) : Option (Int32 × Mem) :=
  some (((wr M 40 1 0) 40 6), (wr M 40 1 0))
def fR_read_b21 (q1 : Nat) : Nat → Int32 → Mem → Option (Int32 × Mem)
  | 0, _, _ => none
  | z + 1, a2, M =>
    if 3 ≤ a2 then
      (fR_expect 13 M).bind fun M2 =>
      if (M2 40 6) = (-1) then
        (fG_become q1 M2).bind fun M3 =>
        fR_read_b87 M3
      else
        fR_read_b87 M2
    else
      (fR_expect (6 + a2) M).bind fun M4 =>
      (f_rR 60 0 0 M4).bind fun M5 =>
      (fR_expect 59 M5).bind fun M6 =>
      if ib a2 3 then
      fR_read_b21 q1 z (a2 + 1) (wr M6 43 (ix a2) (M6 40 9))
      else none
def fR_read (q1 : Nat) (M : Mem) : Option (Int32 × Mem) :=
  (fR_advance (wr (wr (wr M 40 9 0) 40 3 0) 40 6 (-1))).bind fun M1 =>
  fR_read_b21 q1 1000 0 M1
def fS_isMissing (q0 : Nat) (M : Mem) : Option (Int32 × Mem) :=
  if (M q0 0) = (-1) then
    some (1, M)
  else
    some (0, M)
def fS_become_b12 (q0 : Nat) : Nat → Int32 → Mem → Option (Mem)
  | 0, _, _ => none
  | z + 1, a3, M =>
    if 40 ≤ a3 then
      some M
    else
      if ib a3 40 then
      fS_become_b12 q0 z (a3 + 1) (wr M (q0 + 1) (ix a3) 0)
      else none
def fS_become (q0 : Nat) (a1 : Int32) (a2 : Int32) (M : Mem) : Option (Mem) :=
  fS_become_b12 q0 1000 0 (wr (wr M q0 0 a1) q0 1 a2)
def fS_put (q0 : Nat) (a1 : Int32) (a2 : Int32) (M : Mem) : Option (Mem) :=
  (fN_within a1 (M q0 1) M).bind fun w1 =>
  if w1.1 = 0 then
    some w1.2
  else
    if (w1.2 q0 0) = 0 then
      if ib a1 40 then
      some (wr w1.2 (q0 + 1) (ix a1) (a2.toInt8.toInt32))
      else none
    else
      if (w1.2 q0 0) = 1 then
        if ib a1 40 then
        some (wr w1.2 (q0 + 1) (ix a1) (a2.toInt16.toInt32))
        else none
      else
        if ib a1 40 then
        some (wr w1.2 (q0 + 1) (ix a1) a2)
        else none
def fS_has (q0 : Nat) (a1 : Int32) (a2 : Int32) (M : Mem) : Option (Int32 × Mem) :=
  if a1 < 0 then
    some (0, M)
  else
    if a2 < 0 then
      some (0, M)
    else
      if (M q0 1) < a2 then
        some (0, M)
      else
        if ((M q0 1) - a2) < a1 then
          some (0, M)
        else
          some (1, M)
def fN_toldOfMaid (q0 : Nat) (a1 : Int32) (M : Mem) : Option (Int32 × Mem) :=
  if a1 = 4 then
    some ((M q0 1), M)
  else
  if a1 = 5 then
    some ((M q0 2), M)
  else
  if a1 = 6 then
    some ((M q0 0), M)
  else
  if a1 = 7 then
    some ((M q0 3), M)
  else
    (fN_within (a1 - 10) 5 M).bind fun w5 =>
    if w5.1 = 0 then
      some ((-2), w5.2)
    else
      (fA_roomListed q0 (a1 - 10) w5.2).bind fun w6 =>
      some (w6.1, w6.2)
def fN_told (a1 : Int32) (a2 : Int32) (M : Mem) : Option (Int32 × Mem) :=
  if a2 = 0 then
    some ((M 1 0), M)
  else
  if a2 = 1 then
    (fN_within a1 8 M).bind fun w2 =>
    if w2.1 = 0 then
      some ((-2), w2.2)
    else
      if ib a1 8 then
      some ((w2.2 4 (ix a1)), w2.2)
      else none
  else
  if a2 = 2 then
    (fN_within a1 (M 1 1) M).bind fun w4 =>
    if w4.1 = 0 then
      some ((-2), w4.2)
    else
      if ib a1 8 then
      some ((w4.2 2 (ix a1)), w4.2)
      else none
  else
  if a2 = 3 then
    (fN_within a1 (M 1 1) M).bind fun w6 =>
    if w6.1 = 0 then
      some ((-2), w6.2)
    else
      if ib a1 8 then
      some ((w6.2 3 (ix a1)), w6.2)
      else none
  else
    (fN_within a1 (M 1 2) M).bind fun w8 =>
    if w8.1 = 0 then
      some ((-2), w8.2)
    else
      if ib a1 4 then
      (fN_toldOfMaid (6 + 2 * ix a1) a2 w8.2).bind fun w10 =>
      some (w10.1, w10.2)
      else none
def fN_set_b57 (a4 : Int32) (M : Mem) : Option (Int32 × Mem) :=
  some (a4, M)
def fN_set (a1 : Int32) (a2 : Int32) (a3 : Int32) (M : Mem) : Option (Int32 × Mem) :=
  (fN_within a1 6 M).bind fun w1 =>
  if w1.1 = 0 then
    some ((-2), w1.2)
  else
    if ib a1 6 then
    if a3 < (([0, 0, 0, 1, 0, 0] : List Int32).getD (ix a1) 0) then
      some ((-2), w1.2)
    else
      if ib a1 6 then
      if a3 ≤ (([3, 99, 7, 50, 9, 7] : List Int32).getD (ix a1) 0) then
        (fN_told a2 a1 w1.2).bind fun w2 =>
        if w2.1 = (-2) then
          fN_set_b57 w2.1 w2.2
        else
          (fH_put 1 a1 a2 a3 w2.2).bind fun M3 =>
          fN_set_b57 w2.1 M3
      else
        some ((-2), w1.2)
      else none
    else none
def fN_stay (a1 : Int32) (a2 : Int32) (M : Mem) : Option (Int32 × Mem) :=
  (fN_within a1 8 M).bind fun w1 =>
  if w1.1 = 0 then
    some ((-2), w1.2)
  else
    if ib 3 6 then
    if a2 < (([0, 0, 0, 1, 0, 0] : List Int32).getD (ix 3) 0) then
      some ((-2), w1.2)
    else
      if ib 3 6 then
      if a2 ≤ (([3, 99, 7, 50, 9, 7] : List Int32).getD (ix 3) 0) then
        if (w1.2 1 1) < 8 then
          if ib (w1.2 1 1) 8 then
          if ib ((wr w1.2 2 (ix (w1.2 1 1)) a1) 1 1) 8 then
          some (((wr (wr (wr w1.2 2 (ix (w1.2 1 1)) a1) 3 (ix ((wr w1.2 2 (ix (w1.2 1 1)) a1) 1 1)) a2) 1 1 (((wr (wr w1.2 2 (ix (w1.2 1 1)) a1) 3 (ix ((wr w1.2 2 (ix (w1.2 1 1)) a1) 1 1)) a2) 1 1) + 1)) 1 1), (wr (wr (wr w1.2 2 (ix (w1.2 1 1)) a1) 3 (ix ((wr w1.2 2 (ix (w1.2 1 1)) a1) 1 1)) a2) 1 1 (((wr (wr w1.2 2 (ix (w1.2 1 1)) a1) 3 (ix ((wr w1.2 2 (ix (w1.2 1 1)) a1) 1 1)) a2) 1 1) + 1)))
          else none
          else none
        else
          some ((-4), w1.2)
      else
        some ((-2), w1.2)
      else none
    else none
def fN_maid (a1 : Int32) (a2 : Int32) (a3 : Int32) (M : Mem) : Option (Int32 × Mem) :=
  (fN_within a1 6 M).bind fun w1 =>
  if w1.1 = 0 then
    some ((-2), w1.2)
  else
    (fN_within a2 10 w1.2).bind fun w2 =>
    if w2.1 = 0 then
      some ((-2), w2.2)
    else
      (fN_within a3 8 w2.2).bind fun w3 =>
      if w3.1 = 0 then
        some ((-2), w3.2)
      else
        if (w3.2 1 2) < 4 then
          if ib (w3.2 1 2) 4 then
          (fA_arrive (6 + 2 * ix (w3.2 1 2)) a1 a2 a3 w3.2).bind fun M5 =>
          some ((((wr M5 1 2 ((M5 1 2) + 1)) 1 2) - 1), (wr M5 1 2 ((M5 1 2) + 1)))
          else none
        else
          some ((-4), w3.2)
def fN_list (a1 : Int32) (a2 : Int32) (M : Mem) : Option (Int32 × Mem) :=
  (fN_within a1 (M 1 2) M).bind fun w1 =>
  if w1.1 = 0 then
    some ((-2), w1.2)
  else
    (fN_within a2 8 w1.2).bind fun w2 =>
    if w2.1 = 0 then
      some ((-2), w2.2)
    else
      if ib a1 4 then
      if (w2.2 (6 + 2 * ix a1) 3) < 5 then
        if ib (w2.2 (6 + 2 * ix a1) 3) 5 then
        some (((wr (wr w2.2 ((6 + 2 * ix a1) + 1) (ix (w2.2 (6 + 2 * ix a1) 3)) a2) (6 + 2 * ix a1) 3 (((wr w2.2 ((6 + 2 * ix a1) + 1) (ix (w2.2 (6 + 2 * ix a1) 3)) a2) (6 + 2 * ix a1) 3) + 1)) (6 + 2 * ix a1) 3), (wr (wr w2.2 ((6 + 2 * ix a1) + 1) (ix (w2.2 (6 + 2 * ix a1) 3)) a2) (6 + 2 * ix a1) 3 (((wr w2.2 ((6 + 2 * ix a1) + 1) (ix (w2.2 (6 + 2 * ix a1) 3)) a2) (6 + 2 * ix a1) 3) + 1)))
        else none
      else
        some ((-4), w2.2)
      else none
def fN_clear (a1 : Int32) (M : Mem) : Option (Int32 × Mem) :=
  (fN_within a1 (M 1 2) M).bind fun w1 =>
  if w1.1 = 0 then
    some ((-2), w1.2)
  else
    if ib a1 4 then
    if ib a1 4 then
    some ((w1.2 (6 + 2 * ix a1) 3), (wr w1.2 (6 + 2 * ix a1) 3 0))
    else none
    else none
def fN_way (a1 : Int32) (a2 : Int32) (a3 : Int32) (M : Mem) : Option (Int32 × Mem) :=
  (fN_within a1 8 M).bind fun w1 =>
  if w1.1 = 0 then
    some ((-2), w1.2)
  else
    (fN_within a2 8 w1.2).bind fun w2 =>
    if w2.1 = 0 then
      some ((-2), w2.2)
    else
      (fN_within a3 2 w2.2).bind fun w3 =>
      if w3.1 = 0 then
        some ((-2), w3.2)
      else
        if a3 = 0 then
          (fY_far (w3.2 1 0) a1 a2 w3.2).bind fun w4 =>
          some (w4.1, w4.2)
        else
          (fY_nextRoom (w3.2 1 0) a1 a2 w3.2).bind fun w5 =>
          some (w5.1, w5.2)
def fN_feed (a1 : Int32) (M : Mem) : Option (Int32 × Mem) :=
  (fN_within a1 256 M).bind fun w1 =>
  if w1.1 = 0 then
    some ((-2), w1.2)
  else
    (fR_add a1 w1.2).bind fun w2 =>
    if w2.1 = 0 then
      some ((-4), w2.2)
    else
      some ((w2.2 40 1), w2.2)
def fN_text (M : Mem) : Option (Int32 × Mem) :=
  if (M 0 6) < 6 then
    if ib (M 0 6) 6 then
    (fR_read (59 + 3 * ix (M 0 6)) M).bind fun w2 =>
    if w2.1 = (-1) then
      some ((((wr w2.2 0 6 ((w2.2 0 6) + 1)) 0 6) - 1), (wr w2.2 0 6 ((w2.2 0 6) + 1)))
    else
      some (((-100) - w2.1), w2.2)
    else none
  else
    some ((-4), M)
def fN_force (a1 : Int32) (M : Mem) : Option (Int32 × Mem) :=
  (fN_within a1 (M 0 6) M).bind fun w1 =>
  if w1.1 = 0 then
    some ((-2), w1.2)
  else
    some ((w1.2 1 3), (wr w1.2 1 3 a1))
def fN_master (a1 : Int32) (M : Mem) : Option (Int32 × Mem) :=
  (fN_within a1 100 M).bind fun w1 =>
  if w1.1 = 0 then
    some ((-2), w1.2)
  else
    (fH_masterIn 1 a1 w1.2).bind fun w2 =>
    some (w2.1, w2.2)
def fN_free_b47 (a2 : Int32) (a3 : Int32) (M : Mem) : Option (Int32 × Mem) :=
  some ((a3 - a2), M)
def fN_free_b23 (a1 : Int32) (a2 : Int32) : Nat → Int32 → Mem → Option (Int32 × Mem)
  | 0, _, _ => none
  | z + 1, a3, M =>
    if 100 ≤ a3 then
      fN_free_b47 a2 a3 M
    else
      (fH_masterIn 1 a3 M).bind fun w3 =>
      if w3.1 = a1 then
        fN_free_b47 a2 a3 w3.2
      else
        fN_free_b23 a1 a2 z (a3 + 1) w3.2
def fN_free (a1 : Int32) (a2 : Int32) (M : Mem) : Option (Int32 × Mem) :=
  (fN_within a1 8 M).bind fun w1 =>
  if w1.1 = 0 then
    some ((-2), w1.2)
  else
    (fN_within a2 100 w1.2).bind fun w2 =>
    if w2.1 = 0 then
      some ((-2), w2.2)
    else
      fN_free_b23 a1 a2 1000 a2 w2.2
def fN_longestFree_b59 (k11 : Int32 → Int32 → Int32 → Int32 → Mem → Option (Int32 × Mem)) (a1 : Int32) (a2 : Int32) (a3 : Int32) (a4 : Int32) (a5 : Int32) (a6 : Int32) (M : Mem) : Option (Int32 × Mem) :=
  k11 a3 a4 a5 (a6 + 1) M
def fN_longestFree_b39 (k11 : Int32 → Int32 → Int32 → Int32 → Mem → Option (Int32 × Mem)) (a1 : Int32) (a2 : Int32) (a3 : Int32) (a4 : Int32) (a6 : Int32) (s0 : Int32) (M : Mem) : Option (Int32 × Mem) :=
  if s0 ≤ a3 then
    fN_longestFree_b59 k11 a1 a2 a3 a4 s0 a6 M
  else
    fN_longestFree_b59 k11 a1 a2 s0 ((a6 - s0) + 1) s0 a6 M
def fN_longestFree_b11 (a1 : Int32) (a2 : Int32) : Nat → Int32 → Int32 → Int32 → Int32 → Mem → Option (Int32 × Mem)
  | 0, _, _, _, _, _ => none
  | z + 1, a3, a4, a5, a6, M =>
    if 100 ≤ a6 then
      if a2 = 0 then
        some (a3, M)
      else
        some (a4, M)
    else
      (fH_masterIn 1 a6 M).bind fun w1 =>
      if w1.1 = a1 then
        fN_longestFree_b39 (fN_longestFree_b11 a1 a2 z) a1 a2 a3 a4 a6 0 w1.2
      else
        fN_longestFree_b39 (fN_longestFree_b11 a1 a2 z) a1 a2 a3 a4 a6 (a5 + 1) w1.2
def fN_longestFree (a1 : Int32) (a2 : Int32) (M : Mem) : Option (Int32 × Mem) :=
  fN_longestFree_b11 a1 a2 1000 0 (-1) 0 0 M
def fN_longest (a1 : Int32) (a2 : Int32) (M : Mem) : Option (Int32 × Mem) :=
  (fN_within a1 8 M).bind fun w1 =>
  if w1.1 = 0 then
    some ((-2), w1.2)
  else
    (fN_within a2 2 w1.2).bind fun w2 =>
    if w2.1 = 0 then
      some ((-2), w2.2)
    else
      (fN_longestFree a1 a2 w2.2).bind fun w3 =>
      some (w3.1, w3.2)
def fN_never_b39 (k17 : Int32 → Int32 → Mem → Option (Int32 × Mem)) (a1 : Int32) (a2 : Int32) (a3 : Int32) (M : Mem) : Option (Int32 × Mem) :=
  k17 a2 (a3 + 1) M
def fN_never_b17 (a1 : Int32) : Nat → Int32 → Int32 → Mem → Option (Int32 × Mem)
  | 0, _, _, _ => none
  | z + 1, a2, a3, M =>
    if 8 ≤ a3 then
      some (a2, M)
    else
      (fN_longestFree a3 0 M).bind fun w1 =>
      if a1 ≤ w1.1 then
        fN_never_b39 (fN_never_b17 a1 z) a1 a2 a3 w1.2
      else
        fN_never_b39 (fN_never_b17 a1 z) a1 (a2 ||| (1 <<< (a3 &&& 31))) a3 w1.2
def fN_never (a1 : Int32) (M : Mem) : Option (Int32 × Mem) :=
  if a1 < 0 then
    some ((-2), M)
  else
    if a1 ≤ 100 then
      fN_never_b17 a1 1000 0 0 M
    else
      some ((-2), M)
def fN_isAskedOfMorning_b52 (M : Mem) : Option (Int32 × Mem) :=
  some (1, M)
def fN_isAskedOfMorning_b32 (a1 : Int32) (M : Mem) : Option (Int32 × Mem) :=
  (fN_within a1 4 M).bind fun w1 =>
  if w1.1 = 0 then
    (fN_within (a1 - 50) 8 w1.2).bind fun w2 =>
    if w2.1 = 0 then
      some (0, w2.2)
    else
      fN_isAskedOfMorning_b52 w2.2
  else
    fN_isAskedOfMorning_b52 w1.2
def fN_isAskedOfMorning (a1 : Int32) (M : Mem) : Option (Int32 × Mem) :=
  if a1 < 10 then
    fN_isAskedOfMorning_b32 a1 M
  else
    if 50 ≤ a1 then
      fN_isAskedOfMorning_b32 a1 M
    else
      if (M 1 2) ≤ (a1 - a1 / 10 * 10) then
        some (0, M)
      else
        some (1, M)
def fN_morning (a1 : Int32) (a2 : Int32) (M : Mem) : Option (Int32 × Mem) :=
  if a1 < 0 then
    some ((-2), M)
  else
    if 100 < a1 then
      some ((-2), M)
    else
      (fN_isAskedOfMorning a2 M).bind fun w1 =>
      if w1.1 = 0 then
        some ((-2), w1.2)
      else
        (fD_run 1 a1 w1.2).bind fun M2 =>
        if a2 < 50 then
          if a2 < 10 then
            if a2 = 0 then
              (fD_workLeft M2).bind fun w3 =>
              some (w3.1, w3.2)
            else
            if a2 = 1 then
              some ((M2 45 13), M2)
            else
            if a2 = 2 then
              some ((M2 45 14), M2)
            else
              (fD_dear M2).bind fun w7 =>
              some (w7.1, w7.2)
          else
            (fD_ofMaid (a2 - a2 / 10 * 10) (a2 / 10) M2).bind fun w8 =>
            some (w8.1, w8.2)
        else
          if ib (a2 - 50) 8 then
          some ((M2 56 (ix (a2 - 50))), M2)
          else none
def fN_firstOrder_b4 (a1 : Int32) : Nat → Int32 → Int32 → Mem → Option (Int32 × Mem)
  | 0, _, _, _ => none
  | z + 1, a2, a3, M =>
    if a1 ≤ a3 then
      some (a2, M)
    else
      if ib a3 5 then
      fN_firstOrder_b4 a1 z (a2 * (a3 + 1)) (a3 + 1) (wr M 58 (ix a3) a3)
      else none
def fN_firstOrder (a1 : Int32) (M : Mem) : Option (Int32 × Mem) :=
  fN_firstOrder_b4 a1 1000 1 0 M
def fN_swapPlaces (a1 : Int32) (a2 : Int32) (M : Mem) : Option (Mem) :=
  if ib a1 5 then
  if ib a2 5 then
  if ib a1 5 then
  if ib a2 5 then
  some (wr (wr M 58 (ix a1) (M 58 (ix a2))) 58 (ix a2) (M 58 (ix a1)))
  else none
  else none
  else none
  else none
def fN_nextOrder_b82 : Nat → Int32 → Int32 → Mem → Option (Mem)
  | 0, _, _, _ => none
  | z + 1, a4, a5, M =>
    if a5 ≤ a4 then
      some M
    else
      (fN_swapPlaces a4 a5 M).bind fun M2 =>
      fN_nextOrder_b82 z (a4 + 1) (a5 + (-1)) M2
def fN_nextOrder_b66 (a1 : Int32) (a2 : Int32) (a3 : Int32) (M : Mem) : Option (Mem) :=
  (fN_swapPlaces a2 a3 M).bind fun M1 =>
  fN_nextOrder_b82 1000 (a2 + 1) (a1 - 1) M1
def fN_nextOrder_b40 (a1 : Int32) (a2 : Int32) : Nat → Int32 → Mem → Option (Mem)
  | 0, _, _ => none
  | z + 1, a3, M =>
    if a3 ≤ a2 then
      fN_nextOrder_b66 a1 a2 a3 M
    else
      if ib a3 5 then
      if ib a2 5 then
      if (M 58 (ix a2)) ≤ (M 58 (ix a3)) then
        fN_nextOrder_b66 a1 a2 a3 M
      else
        fN_nextOrder_b40 a1 a2 z (a3 + (-1)) M
      else none
      else none
def fN_nextOrder_b31 (a1 : Int32) (a2 : Int32) (M : Mem) : Option (Mem) :=
  if 0 ≤ a2 then
    fN_nextOrder_b40 a1 a2 1000 (a1 - 1) M
  else
    some M
def fN_nextOrder_b4 (a1 : Int32) : Nat → Int32 → Mem → Option (Mem)
  | 0, _, _ => none
  | z + 1, a2, M =>
    if a2 < 0 then
      fN_nextOrder_b31 a1 a2 M
    else
      if ib a2 5 then
      if ib (a2 + 1) 5 then
      if (M 58 (ix a2)) ≤ (M 58 (ix (a2 + 1))) then
        fN_nextOrder_b31 a1 a2 M
      else
        fN_nextOrder_b4 a1 z (a2 + (-1)) M
      else none
      else none
def fN_nextOrder (a1 : Int32) (M : Mem) : Option (Mem) :=
  fN_nextOrder_b4 a1 1000 (a1 - 2) M
def fN_best_b183 (k65 : Int32 → Int32 → Int32 → Mem → Option (Int32 × Mem)) (a1 : Int32) (a2 : Int32) (a3 : Int32) (a4 : Int32) (a5 : Int32) (a6 : Int32) (a7 : Int32) (M : Mem) : Option (Int32 × Mem) :=
  (fN_nextOrder a3 M).bind fun M8 =>
  k65 a5 a6 (a7 + 1) M8
def fN_best_b175 (k65 : Int32 → Int32 → Int32 → Mem → Option (Int32 × Mem)) (a1 : Int32) (a2 : Int32) (a3 : Int32) (a4 : Int32) (a7 : Int32) (a8 : Int32) (a9 : Int32) (M : Mem) : Option (Int32 × Mem) :=
  fN_best_b183 k65 a1 a2 a3 a4 a9 a8 a7 M
def fN_best_b78 (k65 : Int32 → Int32 → Int32 → Mem → Option (Int32 × Mem)) (a1 : Int32) (a2 : Int32) (a3 : Int32) (a4 : Int32) (a5 : Int32) (a6 : Int32) (a7 : Int32) : Nat → Int32 → Int32 → Mem → Option (Int32 × Mem)
  | 0, _, _, _ => none
  | z + 1, a8, a9, M =>
    if a3 ≤ a9 then
      (fD_run 27 100 M).bind fun M6 =>
      (fD_dear M6).bind fun w7 =>
      if a7 = 0 then
        fN_best_b175 k65 a1 a2 a3 a4 a7 a8 w7.1 w7.2
      else
        if a5 ≤ w7.1 then
          fN_best_b183 k65 a1 a2 a3 a4 a5 a6 a7 w7.2
        else
          fN_best_b175 k65 a1 a2 a3 a4 a7 a8 w7.1 w7.2
    else
      if ib a1 4 then
      if ib a9 5 then
      if ib (M 58 (ix a9)) 5 then
      if ib a1 4 then
      if ib a9 5 then
      fN_best_b78 k65 a1 a2 a3 a4 a5 a6 a7 z (((a8 * 10) + (M ((6 + 2 * ix a1) + 1) (ix (M 58 (ix a9))))) + 1) (a9 + 1) (wr M ((32 + 2 * ix a1) + 1) (ix a9) (M ((6 + 2 * ix a1) + 1) (ix (M 58 (ix a9)))))
      else none
      else none
      else none
      else none
      else none
def fN_best_b65 (a1 : Int32) (a2 : Int32) (a3 : Int32) (a4 : Int32) : Nat → Int32 → Int32 → Int32 → Mem → Option (Int32 × Mem)
  | 0, _, _, _, _ => none
  | z + 1, a5, a6, a7, M =>
    if a4 ≤ a7 then
      if a2 = 0 then
        some (a6, M)
      else
        some (a5, M)
    else
      fN_best_b78 (fN_best_b65 a1 a2 a3 a4 z) a1 a2 a3 a4 a5 a6 a7 1000 0 0 M
def fN_best (a1 : Int32) (a2 : Int32) (M : Mem) : Option (Int32 × Mem) :=
  (fN_within a1 (M 1 2) M).bind fun w1 =>
  if w1.1 = 0 then
    some ((-2), w1.2)
  else
    (fN_within a2 2 w1.2).bind fun w2 =>
    if w2.1 = 0 then
      some ((-2), w2.2)
    else
      if ib a1 4 then
      (fN_firstOrder (w2.2 (6 + 2 * ix a1) 3) w2.2).bind fun w4 =>
      (fH_become 27 1 w4.2).bind fun M5 =>
      fN_best_b65 a1 a2 (w2.2 (6 + 2 * ix a1) 3) w4.1 1000 0 0 0 M5
      else none
def fN_begin_b106 (k44 : Int32 → Int32 → Int32 → Mem → Option (Int32 × Mem)) (a1 : Int32) (a2 : Int32) (a3 : Int32) (a4 : Int32) (a5 : Int32) (M : Mem) : Option (Int32 × Mem) :=
  k44 a3 a4 (a5 + 1) M
def fN_begin_b99 (k44 : Int32 → Int32 → Int32 → Mem → Option (Int32 × Mem)) (a1 : Int32) (a2 : Int32) (a5 : Int32) (a6 : Int32) (M : Mem) : Option (Int32 × Mem) :=
  fN_begin_b106 k44 a1 a2 a6 a5 a5 M
def fN_begin_b44 (a1 : Int32) (a2 : Int32) : Nat → Int32 → Int32 → Int32 → Mem → Option (Int32 × Mem)
  | 0, _, _, _, _ => none
  | z + 1, a3, a4, a5, M =>
    if 8 ≤ a5 then
      if a2 = 0 then
        some (a4, M)
      else
        some (a3, M)
    else
      if ib a1 4 then
      (fD_run 27 100 (wr M (32 + 2 * ix a1) 2 a5)).bind fun M5 =>
      (fD_dear M5).bind fun w6 =>
      if a4 = (-1) then
        fN_begin_b99 (fN_begin_b44 a1 a2 z) a1 a2 a5 w6.1 w6.2
      else
        if a3 ≤ w6.1 then
          fN_begin_b106 (fN_begin_b44 a1 a2 z) a1 a2 a3 a4 a5 w6.2
        else
          fN_begin_b99 (fN_begin_b44 a1 a2 z) a1 a2 a5 w6.1 w6.2
      else none
def fN_begin (a1 : Int32) (a2 : Int32) (M : Mem) : Option (Int32 × Mem) :=
  (fN_within a1 (M 1 2) M).bind fun w1 =>
  if w1.1 = 0 then
    some ((-2), w1.2)
  else
    (fN_within a2 2 w1.2).bind fun w2 =>
    if w2.1 = 0 then
      some ((-2), w2.2)
    else
      (fH_become 27 1 w2.2).bind fun M3 =>
      fN_begin_b44 a1 a2 1000 0 (-1) 0 M3
def fN_home_b103 (k37 : Int32 → Int32 → Int32 → Mem → Option (Int32 × Mem)) (a1 : Int32) (a2 : Int32) (a3 : Int32) (a4 : Int32) (M : Mem) : Option (Int32 × Mem) :=
  k37 a2 a3 (a4 + 1) M
def fN_home_b37 (a1 : Int32) : Nat → Int32 → Int32 → Int32 → Mem → Option (Int32 × Mem)
  | 0, _, _, _, _ => none
  | z + 1, a2, a3, a4, M =>
    if (M 1 2) ≤ a4 then
      if a1 = 0 then
        some (a3, M)
      else
        some (a2, M)
    else
      (fH_become 27 1 M).bind fun M4 =>
      (fH_leaveOut 27 a4 M4).bind fun M5 =>
      (fD_run 27 100 M5).bind fun M6 =>
      (fD_dear M6).bind fun w7 =>
      if a2 ≤ w7.1 then
        fN_home_b103 (fN_home_b37 a1 z) a1 a2 a3 a4 w7.2
      else
        fN_home_b103 (fN_home_b37 a1 z) a1 w7.1 a4 a4 w7.2
def fN_home (a1 : Int32) (M : Mem) : Option (Int32 × Mem) :=
  (fN_within a1 2 M).bind fun w1 =>
  if w1.1 = 0 then
    some ((-2), w1.2)
  else
    (fD_run 1 100 w1.2).bind fun M2 =>
    (fD_dear M2).bind fun w3 =>
    fN_home_b37 a1 1000 w3.1 (-1) 0 w3.2
def fN_stairs (M : Mem) : Option (Int32 × Mem) :=
  (fH_become 27 1 M).bind fun M1 =>
  (fD_run 27 100 (wr M1 27 0 0)).bind fun M2 =>
  (fD_dear M2).bind fun w3 =>
  (fD_run 27 100 (wr w3.2 27 0 3)).bind fun M4 =>
  (fD_dear M4).bind fun w5 =>
  some ((w3.1 - w5.1), w5.2)
def fN_isTold_b2 (q1 : Nat) (a2 : Int32) : Nat → Int32 → Mem → Option (Int32 × Mem)
  | 0, _, _ => none
  | z + 1, a3, M =>
    if (M q1 1) ≤ a3 then
      some (1, M)
    else
      (fH_masterIn 1 (a2 + a3) M).bind fun w1 =>
      if ib a3 40 then
      if w1.1 = (w1.2 (q1 + 1) (ix a3)) then
        fN_isTold_b2 q1 a2 z (a3 + 1) w1.2
      else
        some (0, w1.2)
      else none
def fN_isTold (q1 : Nat) (a2 : Int32) (M : Mem) : Option (Int32 × Mem) :=
  fN_isTold_b2 q1 a2 1000 0 M
def fN_from_b75 (k45 : Int32 → Int32 → Int32 → Mem → Option (Int32 × Mem)) (a2 : Int32) (q3 : Nat) (a4 : Int32) (a5 : Int32) (a6 : Int32) (M : Mem) : Option (Int32 × Mem) :=
  k45 a4 a5 (a6 + 1) M
def fN_from_b45 (a2 : Int32) (q3 : Nat) : Nat → Int32 → Int32 → Int32 → Mem → Option (Int32 × Mem)
  | 0, _, _, _, _ => none
  | z + 1, a4, a5, a6, M =>
    if 100 ≤ a6 then
      if a2 = 0 then
        some (a4, M)
      else
        some (a5, M)
    else
      (fN_isTold q3 a6 M).bind fun w5 =>
      if w5.1 = 0 then
        fN_from_b75 (fN_from_b45 a2 q3 z) a2 q3 a4 a5 a6 w5.2
      else
        if a5 = (-1) then
          fN_from_b75 (fN_from_b45 a2 q3 z) a2 q3 (a4 + 1) a6 a6 w5.2
        else
          fN_from_b75 (fN_from_b45 a2 q3 z) a2 q3 (a4 + 1) a5 a6 w5.2
def fN_from (a1 : Int32) (a2 : Int32) (M : Mem) : Option (Int32 × Mem) :=
  (fN_within a1 4 M).bind fun w1 =>
  if w1.1 = 0 then
    some ((-2), w1.2)
  else
    (fN_within a2 2 w1.2).bind fun w2 =>
    if w2.1 = 0 then
      some ((-2), w2.2)
    else
      if ib a1 4 then
      (fS_isMissing (77 + 2 * ix a1) w2.2).bind fun w4 =>
      if w4.1 = 0 then
        fN_from_b45 a2 (77 + 2 * ix a1) 1000 0 (-1) 0 w4.2
      else
        some ((-11), w4.2)
      else none
def fN_doorChoices (a1 : Int32) (M : Mem) : Option (Int32 × Mem) :=
  if a1 = 1 then
    some (6, M)
  else
  if a1 = 2 then
    some (10, M)
  else
  if a1 = 3 then
    some (8, M)
  else
  if a1 = 4 then
    some ((M 0 6), M)
  else
    some (1, M)
def fN_isSeenFromDoor_b13 (q1 : Nat) (a2 : Int32) : Nat → Int32 → Mem → Option (Int32 × Mem)
  | 0, _, _ => none
  | z + 1, a3, M =>
    if (M q1 1) ≤ a3 then
      some (1, M)
    else
      (fD_pass a3 M).bind fun M2 =>
      if ib a2 4 then
      if ib a3 40 then
      if (M2 50 (ix a2)) = (M2 (q1 + 1) (ix a3)) then
        fN_isSeenFromDoor_b13 q1 a2 z (a3 + 1) M2
      else
        some (0, M2)
      else none
      else none
def fN_isSeenFromDoor (q1 : Nat) (a2 : Int32) (M : Mem) : Option (Int32 × Mem) :=
  (fD_start 27 M).bind fun M1 =>
  fN_isSeenFromDoor_b13 q1 a2 1000 0 M1
def fN_door_b172 (k87 : Int32 → Int32 → Mem → Option (Int32 × Mem)) (a2 : Int32) (a3 : Int32) (q4 : Nat) (q5 : Nat) (a6 : Int32) (a7 : Int32) (a8 : Int32) (M : Mem) : Option (Int32 × Mem) :=
  k87 a7 (a8 + 1) M
def fN_door_b153 (k87 : Int32 → Int32 → Mem → Option (Int32 × Mem)) (a2 : Int32) (a3 : Int32) (q4 : Nat) (q5 : Nat) (a6 : Int32) (a7 : Int32) (a8 : Int32) (M : Mem) : Option (Int32 × Mem) :=
  (fN_isSeenFromDoor q4 a2 M).bind fun w9 =>
  if w9.1 = 0 then
    fN_door_b172 k87 a2 a3 q4 q5 a6 a7 a8 w9.2
  else
    fN_door_b172 k87 a2 a3 q4 q5 a6 (a7 ||| (1 <<< (a8 &&& 31))) a8 w9.2
def fN_door_b87 (a2 : Int32) (a3 : Int32) (q4 : Nat) (q5 : Nat) (a6 : Int32) : Nat → Int32 → Int32 → Mem → Option (Int32 × Mem)
  | 0, _, _, _ => none
  | z + 1, a7, a8, M =>
    if a6 ≤ a8 then
      some (a7, M)
    else
      if a3 = 1 then
        fN_door_b153 (fN_door_b87 a2 a3 q4 q5 a6 z) a2 a3 q4 q5 a6 a7 a8 (wr M q5 0 a8)
      else
        if a3 = 2 then
          fN_door_b153 (fN_door_b87 a2 a3 q4 q5 a6 z) a2 a3 q4 q5 a6 a7 a8 (wr M q5 1 a8)
        else
          if a3 = 3 then
            fN_door_b153 (fN_door_b87 a2 a3 q4 q5 a6 z) a2 a3 q4 q5 a6 a7 a8 (wr M q5 2 a8)
          else
            if a3 = 4 then
              fN_door_b153 (fN_door_b87 a2 a3 q4 q5 a6 z) a2 a3 q4 q5 a6 a7 a8 (wr M 27 3 a8)
            else
              fN_door_b153 (fN_door_b87 a2 a3 q4 q5 a6 z) a2 a3 q4 q5 a6 a7 a8 M
def fN_door (a1 : Int32) (a2 : Int32) (a3 : Int32) (M : Mem) : Option (Int32 × Mem) :=
  (fN_within a1 4 M).bind fun w1 =>
  if w1.1 = 0 then
    some ((-2), w1.2)
  else
    (fN_within a2 (w1.2 1 2) w1.2).bind fun w2 =>
    if w2.1 = 0 then
      some ((-2), w2.2)
    else
      (fN_within a3 5 w2.2).bind fun w3 =>
      if w3.1 = 0 then
        some ((-2), w3.2)
      else
        if ib a1 4 then
        (fS_isMissing (77 + 2 * ix a1) w3.2).bind fun w5 =>
        if w5.1 = 0 then
          (fH_become 27 1 w5.2).bind fun M6 =>
          if ib a2 4 then
          (fN_doorChoices a3 M6).bind fun w8 =>
          fN_door_b87 a2 a3 (77 + 2 * ix a1) (32 + 2 * ix a2) w8.1 1000 0 0 w8.2
          else none
        else
          some ((-11), w5.2)
        else none
def fN_film_b111 (k66 : Int32 → Mem → Option (Int32 × Mem)) (a2 : Int32) (a3 : Int32) (q4 : Nat) (a5 : Int32) (s0 : Int32) (s1 : Int32) (t2 : Nat) (M : Mem) : Option (Int32 × Mem) :=
  (fS_put t2 s1 s0 M).bind fun M7 =>
  k66 (a5 + 1) M7
def fN_film_b66 (a2 : Int32) (a3 : Int32) (q4 : Nat) : Nat → Int32 → Mem → Option (Int32 × Mem)
  | 0, _, _ => none
  | z + 1, a5, M =>
    if a3 ≤ a5 then
      some (a3, M)
    else
      (fD_pass a5 M).bind fun M5 =>
      if a2 = (-1) then
        (fH_masterIn 1 a5 M5).bind fun w6 =>
        fN_film_b111 (fN_film_b66 a2 a3 q4 z) a2 a3 q4 a5 w6.1 a5 q4 w6.2
      else
        if ib a2 4 then
        fN_film_b111 (fN_film_b66 a2 a3 q4 z) a2 a3 q4 a5 (M5 50 (ix a2)) a5 q4 M5
        else none
def fN_film (a1 : Int32) (a2 : Int32) (a3 : Int32) (M : Mem) : Option (Int32 × Mem) :=
  (fN_within a1 4 M).bind fun w1 =>
  if w1.1 = 0 then
    some ((-2), w1.2)
  else
    if a2 < (-1) then
      some ((-2), w1.2)
    else
      if (w1.2 1 2) ≤ a2 then
        some ((-2), w1.2)
      else
        if a3 < 0 then
          some ((-2), w1.2)
        else
          if a3 ≤ 40 then
            if ib a1 4 then
            (fS_become (77 + 2 * ix a1) 0 a3 w1.2).bind fun M3 =>
            (fD_start 1 M3).bind fun M4 =>
            fN_film_b66 a2 a3 (77 + 2 * ix a1) 1000 0 M4
            else none
          else
            some ((-2), w1.2)
def fN_drawn (a1 : Int32) (M : Mem) : Option (Int32 × Mem) :=
  (fH_become 27 1 M).bind fun M1 =>
  (fH_draw 27 a1 M1).bind fun M2 =>
  (fD_run 27 100 M2).bind fun M3 =>
  (fD_dear M3).bind fun w4 =>
  some (w4.1, w4.2)
def fN_inLowestTerms_b28 (a3 : Int32) (s0 : Int32) (M : Mem) : Option (Int32 × Mem) :=
  if a3 = 0 then none else
  some ((s0 / a3), M)
def fN_inLowestTerms_b31 (k2 : Int32 → Mem → Option (Int32 × Mem)) (a0 : Int32) (a1 : Int32) (a2 : Int32) (a3 : Int32) (M : Mem) : Option (Int32 × Mem) :=
  k2 (a3 + (-1)) M
def fN_inLowestTerms_b2 (a0 : Int32) (a1 : Int32) (a2 : Int32) : Nat → Int32 → Mem → Option (Int32 × Mem)
  | 0, _, _ => none
  | z + 1, a3, M =>
    if a3 ≤ 1 then
      if a2 = 0 then
        some (a0, M)
      else
        some (a1, M)
    else
      if a3 = 0 then none else
      if (a0 - a0 / a3 * a3) = 0 then
        if a3 = 0 then none else
        if (a1 - a1 / a3 * a3) = 0 then
          if a2 = 0 then
            fN_inLowestTerms_b28 a3 a0 M
          else
            fN_inLowestTerms_b28 a3 a1 M
        else
          fN_inLowestTerms_b31 (fN_inLowestTerms_b2 a0 a1 a2 z) a0 a1 a2 a3 M
      else
        fN_inLowestTerms_b31 (fN_inLowestTerms_b2 a0 a1 a2 z) a0 a1 a2 a3 M
def fN_inLowestTerms (a0 : Int32) (a1 : Int32) (a2 : Int32) (M : Mem) : Option (Int32 × Mem) :=
  fN_inLowestTerms_b2 a0 a1 a2 1000 a1 M
def fN_chance_b19 (M : Mem) : Option (Int64 × Mem) :=
  some ((-4611686018427387904 : Int64), M)
def fN_chance_b83 (k40 : Int32 → Int32 → Mem → Option (Int64 × Mem)) (a1 : Int32) (a2 : Int32) (a3 : Int32) (a4 : Int32) (a5 : Int32) (M : Mem) : Option (Int64 × Mem) :=
  k40 a4 (a5 + 1) M
def fN_chance_b40 (a1 : Int32) (a2 : Int32) (a3 : Int32) : Nat → Int32 → Int32 → Mem → Option (Int64 × Mem)
  | 0, _, _, _ => none
  | z + 1, a4, a5, M =>
    if a2 ≤ a5 then
      (fN_inLowestTerms a4 a2 a3 M).bind fun w3 =>
      some ((w3.1.toInt64), w3.2)
    else
      (fH_draw 27 (a1 + a5) M).bind fun M4 =>
      (fD_run 27 100 M4).bind fun M5 =>
      (fD_isAnySeen M5).bind fun w6 =>
      if w6.1 = 0 then
        fN_chance_b83 (fN_chance_b40 a1 a2 a3 z) a1 a2 a3 (a4 + 1) a5 w6.2
      else
        fN_chance_b83 (fN_chance_b40 a1 a2 a3 z) a1 a2 a3 a4 a5 w6.2
def fN_chance (a1 : Int32) (a2 : Int32) (a3 : Int32) (M : Mem) : Option (Int64 × Mem) :=
  if a2 < 1 then
    fN_chance_b19 M
  else
    if 20 < a2 then
      fN_chance_b19 M
    else
      (fN_within a3 2 M).bind fun w1 =>
      if w1.1 = 0 then
        fN_chance_b19 w1.2
      else
        (fH_become 27 1 w1.2).bind fun M2 =>
        fN_chance_b40 a1 a2 a3 1000 0 0 M2
def fN_image (M : Mem) : Option (Int32 × Mem) :=
  (fH_become 14 1 M).bind fun M1 =>
  some (((wr M1 0 3 1) 14 2), (wr M1 0 3 1))
def fN_back (M : Mem) : Option (Int32 × Mem) :=
  if (M 0 3) = 0 then
    some ((-3), M)
  else
    (fH_become 1 14 M).bind fun M1 =>
    some ((M1 1 2), M1)
def fN_count (a1 : Int32) (M : Mem) : Option (Int32 × Mem) :=
  if a1 = 0 then
    some ((M 1 2), M)
  else
  if a1 = 1 then
    some ((M 1 1), M)
  else
  if a1 = 2 then
    some ((M 1 0), M)
  else
  if a1 = 3 then
    some ((M 0 6), M)
  else
  if a1 = 4 then
    some ((M 40 1), M)
  else
  if a1 = 5 then
    some ((M 1 3), M)
  else
  if a1 = 6 then
    (fN_sum 4 M).bind fun w7 =>
    some (w7.1, w7.2)
  else
    some ((-2), M)
def fN_sheet (a1 : Int32) (a2 : Int32) (a3 : Int32) (M : Mem) : Option (Int32 × Mem) :=
  (fN_within a1 4 M).bind fun w1 =>
  if w1.1 = 0 then
    some ((-2), w1.2)
  else
    if a2 < (-1) then
      some ((-2), w1.2)
    else
      if a2 < 3 then
        if a2 = (-1) then
          if ib a1 4 then
          (fS_become (77 + 2 * ix a1) (-1) 0 w1.2).bind fun M3 =>
          some (1, M3)
          else none
        else
          if a3 ≤ 40 then
            if 0 ≤ a3 then
              if ib a1 4 then
              (fS_become (77 + 2 * ix a1) a2 a3 w1.2).bind fun M5 =>
              some (1, M5)
              else none
            else
              some ((-14), w1.2)
          else
            some ((-2), w1.2)
      else
        some ((-2), w1.2)
def fN_cell (a1 : Int32) (a2 : Int32) (a3 : Int32) (M : Mem) : Option (Int32 × Mem) :=
  (fN_within a1 4 M).bind fun w1 =>
  if w1.1 = 0 then
    some ((-2), w1.2)
  else
    if ib a1 4 then
    (fS_isMissing (77 + 2 * ix a1) w1.2).bind fun w3 =>
    if w3.1 = 0 then
      (fN_within a2 (w3.2 (77 + 2 * ix a1) 1) w3.2).bind fun w4 =>
      if w4.1 = 0 then
        some ((-12), w4.2)
      else
        (fS_put (77 + 2 * ix a1) a2 a3 w4.2).bind fun M5 =>
        some (1, M5)
    else
      some ((-11), w3.2)
    else none
def fN_copy (a1 : Int32) (a2 : Int32) (a3 : Int32) (a4 : Int32) (a5 : Int32) (M : Mem) : Option (Int32 × Mem) :=
  (fN_within a1 4 M).bind fun w1 =>
  if w1.1 = 0 then
    some ((-2), w1.2)
  else
    (fN_within a3 4 w1.2).bind fun w2 =>
    if w2.1 = 0 then
      some ((-2), w2.2)
    else
      if ib a1 4 then
      if ib a3 4 then
      (fS_isMissing (77 + 2 * ix a1) w2.2).bind fun w5 =>
      if w5.1 = 0 then
        (fS_isMissing (77 + 2 * ix a3) w5.2).bind fun w6 =>
        if w6.1 = 0 then
          if (w6.2 (77 + 2 * ix a1) 0) = (w6.2 (77 + 2 * ix a3) 0) then
            (fS_has (77 + 2 * ix a1) a2 a5 w6.2).bind fun w7 =>
            if w7.1 = 0 then
              some ((-12), w7.2)
            else
              (fS_has (77 + 2 * ix a3) a4 a5 w7.2).bind fun w8 =>
              if w8.1 = 0 then
                some ((-12), w8.2)
              else
                if 0 ≤ a2.toInt ∧ 0 ≤ a4.toInt ∧ 0 ≤ a5.toInt ∧ a2.toInt + a5.toInt ≤ 40 ∧ a4.toInt + a5.toInt ≤ 40 then
                some (a5, (wrR w8.2 ((77 + 2 * ix a3) + 1) (va_cpy (w8.2 ((77 + 2 * ix a1) + 1)) (w8.2 ((77 + 2 * ix a3) + 1)) (ix a2) (ix a4) (ix a5))))
                else none
          else
            some ((-13), w6.2)
        else
          some ((-11), w6.2)
      else
        some ((-11), w5.2)
      else none
      else none
def fN_maids_b138 (k67 : Int32 → Int32 → Mem → Option (Int32 × Mem)) (a3 : Int32) (a4 : Int32) (q5 : Nat) (a6 : Int32) (a7 : Int32) (M : Mem) : Option (Int32 × Mem) :=
  k67 a6 (a7 + 1) M
def fN_maids_b67 (a3 : Int32) (a4 : Int32) (q5 : Nat) : Nat → Int32 → Int32 → Mem → Option (Int32 × Mem)
  | 0, _, _, _ => none
  | z + 1, a6, a7, M =>
    if a4 ≤ a7 then
      some (a6, M)
    else
      (fS_has q5 a3 ((3 * a7) + 3) M).bind fun w5 =>
      if w5.1 = 0 then
        some ((-12), w5.2)
      else
        if ib (a3 + (3 * a7)) 40 then
        if ib ((a3 + (3 * a7)) + 1) 40 then
        if ib ((a3 + (3 * a7)) + 2) 40 then
        (fN_maid (w5.2 (q5 + 1) (ix (a3 + (3 * a7)))) (w5.2 (q5 + 1) (ix ((a3 + (3 * a7)) + 1))) (w5.2 (q5 + 1) (ix ((a3 + (3 * a7)) + 2))) w5.2).bind fun w6 =>
        if w6.1 < 0 then
          fN_maids_b138 (fN_maids_b67 a3 a4 q5 z) a3 a4 q5 a6 a7 w6.2
        else
          fN_maids_b138 (fN_maids_b67 a3 a4 q5 z) a3 a4 q5 (a6 + 1) a7 w6.2
        else none
        else none
        else none
def fN_maids (a1 : Int32) (a2 : Int32) (a3 : Int32) (a4 : Int32) (M : Mem) : Option (Int32 × Mem) :=
  (fN_within a1 4 M).bind fun w1 =>
  if w1.1 = 0 then
    some ((-2), w1.2)
  else
    (fN_within a2 3 w1.2).bind fun w2 =>
    if w2.1 = 0 then
      some ((-2), w2.2)
    else
      if a4 < 0 then
        some ((-2), w2.2)
      else
        if a4 ≤ 4 then
          if ib a1 4 then
          (fS_isMissing (77 + 2 * ix a1) w2.2).bind fun w4 =>
          if w4.1 = 0 then
            if (w4.2 (77 + 2 * ix a1) 0) = a2 then
              fN_maids_b67 a3 a4 (77 + 2 * ix a1) 1000 0 0 w4.2
            else
              some ((-13), w4.2)
          else
            some ((-11), w4.2)
          else none
        else
          some ((-2), w2.2)
def fN_taken (a1 : Int32) (a2 : Int32) (M : Mem) : Option (Int32 × Mem) :=
  (fN_within a2 6 M).bind fun w1 =>
  if w1.1 = 0 then
    some ((-2), w1.2)
  else
    (fN_within a1 (w1.2 1 2) w1.2).bind fun w2 =>
    if w2.1 = 0 then
      some ((-11), w2.2)
    else
      if ib a1 4 then
      (fA_isOfKind (6 + 2 * ix a1) a2 w2.2).bind fun w4 =>
      if w4.1 = 0 then
        some ((-13), w4.2)
      else
        if ib a1 4 then
        some ((w4.2 (6 + 2 * ix a1) 1), w4.2)
        else none
      else none
def fM_in (a0 : Int64) (a2 : Int64) (a4 : Int64) (M : Mem) : Option (Int32 × Mem) :=
  if (lg_cmp a0 a2) < 0 then
    some (0, M)
  else
    if 0 < (lg_cmp a0 a4) then
      some (0, M)
    else
      some (1, M)
def fM_within (a0 : Int32) (a1 : Int32) (a2 : Int32) (M : Mem) : Option (Int32 × Mem) :=
  if a1 ≤ a0 then
    if a0 ≤ a2 then
      some (a0, M)
    else
      some (a2, M)
  else
    some (a1, M)
def fM_spell (a1 : Int32) (a2 : Int32) (a3 : Int32) (a4 : Int32) (a5 : Int32) (a6 : Int32) (a7 : Int32) (a8 : Int32) (a9 : Int32) (M : Mem) : Option (Mem) :=
  if ib a1 960 then
  if ib (a1 + 1) 960 then
  if ib (a1 + 2) 960 then
  if ib (a1 + 3) 960 then
  if ib (a1 + 4) 960 then
  if ib (a1 + 5) 960 then
  if ib (a1 + 6) 960 then
  if ib (a1 + 7) 960 then
  some (wr (wr (wr (wr (wr (wr (wr (wr M 86 (ix a1) a2) 86 (ix (a1 + 1)) a3) 86 (ix (a1 + 2)) a4) 86 (ix (a1 + 3)) a5) 86 (ix (a1 + 4)) a6) 86 (ix (a1 + 5)) a7) 86 (ix (a1 + 6)) a8) 86 (ix (a1 + 7)) a9)
  else none
  else none
  else none
  else none
  else none
  else none
  else none
  else none
def fM_isRoom (a0 : Int32) (M : Mem) : Option (Int32 × Mem) :=
  (fM_in (a0.toInt64) (0 : Int64) (7 : Int64) M).bind fun w1 =>
  if w1.1 = 0 ∨ w1.1 = 1 then some (w1.1, w1.2) else none
def fM_isMaid (a1 : Int32) (M : Mem) : Option (Int32 × Mem) :=
  (fM_in (a1.toInt64) (0 : Int64) (((M 85 17) - 1).toInt64) M).bind fun w1 =>
  if w1.1 = 0 ∨ w1.1 = 1 then some (w1.1, w1.2) else none
def fM_isStay (a1 : Int32) (M : Mem) : Option (Int32 × Mem) :=
  (fM_in (a1.toInt64) (0 : Int64) (((M 85 11) - 1).toInt64) M).bind fun w1 =>
  if w1.1 = 0 ∨ w1.1 = 1 then some (w1.1, w1.2) else none
def fM_isOf_b43 (M : Mem) : Option (Int32 × Mem) :=
  some (1, M)
def fM_isOf (a1 : Int32) (a2 : Int32) (M : Mem) : Option (Int32 × Mem) :=
  if a1 = 0 then
    fM_isOf_b43 M
  else
    if a1 = 1 then
      (fM_isRoom a2 M).bind fun w1 =>
      if w1.1 = 0 then
        some (0, w1.2)
      else
        fM_isOf_b43 w1.2
    else
      if 4 ≤ a1 then
        (fM_isMaid a2 M).bind fun w2 =>
        if w2.1 = 0 then
          some (0, w2.2)
        else
          fM_isOf_b43 w2.2
      else
        (fM_isStay a2 M).bind fun w3 =>
        if w3.1 = 0 then
          some (0, w3.2)
        else
          fM_isOf_b43 w3.2
def fM_lays (a1 : Int32) (a2 : Int32) (a3 : Int32) (M : Mem) : Option (Mem) :=
  if a1 = 0 then
    some (wr M 85 7 a3)
  else
    if a1 = 1 then
      if ib a2 8 then
      some (wr M 89 (ix a2) a3)
      else none
    else
      if a1 = 2 then
        if ib a2 8 then
        some (wr M 90 (ix a2) a3)
        else none
      else
        if a1 = 3 then
          if ib a2 8 then
          some (wr M 91 (ix a2) a3)
          else none
        else
          if a1 = 4 then
            if ib a2 4 then
            some (wr M 93 (ix a2) a3)
            else none
          else
            if ib a2 4 then
            some (wr M 94 (ix a2) a3)
            else none
def fM_told_b26 (a1 : Int32) (a2 : Int32) (M : Mem) : Option (Int32 × Mem) :=
  (fM_isOf a2 a1 M).bind fun w3 =>
  if w3.1 = 0 then
    some ((-2), w3.2)
  else
    if 4 ≤ a2 then
      if 8 ≤ a2 then
        if ib a1 4 then
        if (w3.2 96 (ix a1)) ≤ (a2 - 10) then
          some ((-1), w3.2)
        else
          if ib (((5 * a1) + a2) - 10) 20 then
          some ((w3.2 95 (ix (((5 * a1) + a2) - 10))), w3.2)
          else none
        else none
      else
        if a2 = 4 then
          if ib a1 4 then
          some ((w3.2 93 (ix a1)), w3.2)
          else none
        else
          if a2 = 5 then
            if ib a1 4 then
            some ((w3.2 94 (ix a1)), w3.2)
            else none
          else
            if a2 = 6 then
              if ib a1 4 then
              some ((w3.2 92 (ix a1)), w3.2)
              else none
            else
              if ib a1 4 then
              some ((w3.2 96 (ix a1)), w3.2)
              else none
    else
      if a2 = 0 then
        some ((w3.2 85 7), w3.2)
      else
        if a2 = 1 then
          if ib a1 8 then
          some ((w3.2 89 (ix a1)), w3.2)
          else none
        else
          if a2 = 2 then
            if ib a1 8 then
            some ((w3.2 90 (ix a1)), w3.2)
            else none
          else
            if ib a1 8 then
            some ((w3.2 91 (ix a1)), w3.2)
            else none
def fM_told (a1 : Int32) (a2 : Int32) (M : Mem) : Option (Int32 × Mem) :=
  (fM_in (a2.toInt64) (0 : Int64) (7 : Int64) M).bind fun w1 =>
  if w1.1 = 0 then
    (fM_in (a2.toInt64) (10 : Int64) (14 : Int64) w1.2).bind fun w2 =>
    if w2.1 = 0 then
      some ((-2), w2.2)
    else
      fM_told_b26 a1 a2 w2.2
  else
    fM_told_b26 a1 a2 w1.2
def fM_set_b82 (a1 : Int32) (a2 : Int32) (a3 : Int32) (s0 : Int64) (s1 : Int64) (s2 : Int64) (M : Mem) : Option (Int32 × Mem) :=
  (fM_in s2 s1 s0 M).bind fun w3 =>
  if w3.1 = 0 then
    some ((-2), w3.2)
  else
    (fM_told a2 a1 w3.2).bind fun w4 =>
    (fM_lays a1 a2 a3 w4.2).bind fun M5 =>
    some (w4.1, M5)
def fM_set_b36 (a1 : Int32) (a2 : Int32) (a3 : Int32) (s0 : Int64) (s1 : Int64) (M : Mem) : Option (Int32 × Mem) :=
  if a1 = 0 then
    fM_set_b82 a1 a2 a3 (3 : Int64) s0 s1 M
  else
    if a1 = 1 then
      fM_set_b82 a1 a2 a3 (99 : Int64) s0 s1 M
    else
      if a1 = 3 then
        fM_set_b82 a1 a2 a3 (50 : Int64) s0 s1 M
      else
        if a1 = 4 then
          fM_set_b82 a1 a2 a3 (9 : Int64) s0 s1 M
        else
          fM_set_b82 a1 a2 a3 (7 : Int64) s0 s1 M
def fM_set (a1 : Int32) (a2 : Int32) (a3 : Int32) (M : Mem) : Option (Int32 × Mem) :=
  (fM_in (a1.toInt64) (0 : Int64) (5 : Int64) M).bind fun w1 =>
  if w1.1 = 0 then
    some ((-2), w1.2)
  else
    (fM_isOf a1 a2 w1.2).bind fun w2 =>
    if w2.1 = 0 then
      some ((-2), w2.2)
    else
      if a1 = 3 then
        fM_set_b36 a1 a2 a3 (1 : Int64) (a3.toInt64) w2.2
      else
        fM_set_b36 a1 a2 a3 (0 : Int64) (a3.toInt64) w2.2
def fM_stay (a1 : Int32) (a2 : Int32) (M : Mem) : Option (Int32 × Mem) :=
  (fM_isRoom a1 M).bind fun w1 =>
  if w1.1 = 0 then
    some ((-2), w1.2)
  else
    (fM_in (a2.toInt64) (1 : Int64) (50 : Int64) w1.2).bind fun w2 =>
    if w2.1 = 0 then
      some ((-2), w2.2)
    else
      if (w2.2 85 11) = 8 then
        some ((-4), w2.2)
      else
        if ib (w2.2 85 11) 8 then
        if ib ((wr w2.2 90 (ix (w2.2 85 11)) a1) 85 11) 8 then
        some (((wr (wr (wr w2.2 90 (ix (w2.2 85 11)) a1) 91 (ix ((wr w2.2 90 (ix (w2.2 85 11)) a1) 85 11)) a2) 85 11 (((wr (wr w2.2 90 (ix (w2.2 85 11)) a1) 91 (ix ((wr w2.2 90 (ix (w2.2 85 11)) a1) 85 11)) a2) 85 11) + 1)) 85 11), (wr (wr (wr w2.2 90 (ix (w2.2 85 11)) a1) 91 (ix ((wr w2.2 90 (ix (w2.2 85 11)) a1) 85 11)) a2) 85 11 (((wr (wr w2.2 90 (ix (w2.2 85 11)) a1) 91 (ix ((wr w2.2 90 (ix (w2.2 85 11)) a1) 85 11)) a2) 85 11) + 1)))
        else none
        else none
def fM_maid (a1 : Int32) (a2 : Int32) (a3 : Int32) (M : Mem) : Option (Int32 × Mem) :=
  (fM_in (a1.toInt64) (0 : Int64) (5 : Int64) M).bind fun w1 =>
  if w1.1 = 0 then
    some ((-2), w1.2)
  else
    (fM_in (a2.toInt64) (0 : Int64) (9 : Int64) w1.2).bind fun w2 =>
    if w2.1 = 0 then
      some ((-2), w2.2)
    else
      (fM_isRoom a3 w2.2).bind fun w3 =>
      if w3.1 = 0 then
        some ((-2), w3.2)
      else
        if (w3.2 85 17) = 4 then
          some ((-4), w3.2)
        else
          if ib (w3.2 85 17) 4 then
          if ib ((wr w3.2 92 (ix (w3.2 85 17)) a1) 85 17) 4 then
          if ib ((wr (wr w3.2 92 (ix (w3.2 85 17)) a1) 93 (ix ((wr w3.2 92 (ix (w3.2 85 17)) a1) 85 17)) a2) 85 17) 4 then
          if ib ((wr (wr (wr w3.2 92 (ix (w3.2 85 17)) a1) 93 (ix ((wr w3.2 92 (ix (w3.2 85 17)) a1) 85 17)) a2) 94 (ix ((wr (wr w3.2 92 (ix (w3.2 85 17)) a1) 93 (ix ((wr w3.2 92 (ix (w3.2 85 17)) a1) 85 17)) a2) 85 17)) a3) 85 17) 4 then
          some ((((wr (wr (wr (wr (wr w3.2 92 (ix (w3.2 85 17)) a1) 93 (ix ((wr w3.2 92 (ix (w3.2 85 17)) a1) 85 17)) a2) 94 (ix ((wr (wr w3.2 92 (ix (w3.2 85 17)) a1) 93 (ix ((wr w3.2 92 (ix (w3.2 85 17)) a1) 85 17)) a2) 85 17)) a3) 96 (ix ((wr (wr (wr w3.2 92 (ix (w3.2 85 17)) a1) 93 (ix ((wr w3.2 92 (ix (w3.2 85 17)) a1) 85 17)) a2) 94 (ix ((wr (wr w3.2 92 (ix (w3.2 85 17)) a1) 93 (ix ((wr w3.2 92 (ix (w3.2 85 17)) a1) 85 17)) a2) 85 17)) a3) 85 17)) 0) 85 17 (((wr (wr (wr (wr w3.2 92 (ix (w3.2 85 17)) a1) 93 (ix ((wr w3.2 92 (ix (w3.2 85 17)) a1) 85 17)) a2) 94 (ix ((wr (wr w3.2 92 (ix (w3.2 85 17)) a1) 93 (ix ((wr w3.2 92 (ix (w3.2 85 17)) a1) 85 17)) a2) 85 17)) a3) 96 (ix ((wr (wr (wr w3.2 92 (ix (w3.2 85 17)) a1) 93 (ix ((wr w3.2 92 (ix (w3.2 85 17)) a1) 85 17)) a2) 94 (ix ((wr (wr w3.2 92 (ix (w3.2 85 17)) a1) 93 (ix ((wr w3.2 92 (ix (w3.2 85 17)) a1) 85 17)) a2) 85 17)) a3) 85 17)) 0) 85 17) + 1)) 85 17) - 1), (wr (wr (wr (wr (wr w3.2 92 (ix (w3.2 85 17)) a1) 93 (ix ((wr w3.2 92 (ix (w3.2 85 17)) a1) 85 17)) a2) 94 (ix ((wr (wr w3.2 92 (ix (w3.2 85 17)) a1) 93 (ix ((wr w3.2 92 (ix (w3.2 85 17)) a1) 85 17)) a2) 85 17)) a3) 96 (ix ((wr (wr (wr w3.2 92 (ix (w3.2 85 17)) a1) 93 (ix ((wr w3.2 92 (ix (w3.2 85 17)) a1) 85 17)) a2) 94 (ix ((wr (wr w3.2 92 (ix (w3.2 85 17)) a1) 93 (ix ((wr w3.2 92 (ix (w3.2 85 17)) a1) 85 17)) a2) 85 17)) a3) 85 17)) 0) 85 17 (((wr (wr (wr (wr w3.2 92 (ix (w3.2 85 17)) a1) 93 (ix ((wr w3.2 92 (ix (w3.2 85 17)) a1) 85 17)) a2) 94 (ix ((wr (wr w3.2 92 (ix (w3.2 85 17)) a1) 93 (ix ((wr w3.2 92 (ix (w3.2 85 17)) a1) 85 17)) a2) 85 17)) a3) 96 (ix ((wr (wr (wr w3.2 92 (ix (w3.2 85 17)) a1) 93 (ix ((wr w3.2 92 (ix (w3.2 85 17)) a1) 85 17)) a2) 94 (ix ((wr (wr w3.2 92 (ix (w3.2 85 17)) a1) 93 (ix ((wr w3.2 92 (ix (w3.2 85 17)) a1) 85 17)) a2) 85 17)) a3) 85 17)) 0) 85 17) + 1)))
          else none
          else none
          else none
          else none
def fM_list (a1 : Int32) (a2 : Int32) (M : Mem) : Option (Int32 × Mem) :=
  (fM_isMaid a1 M).bind fun w1 =>
  if w1.1 = 0 then
    some ((-2), w1.2)
  else
    (fM_isRoom a2 w1.2).bind fun w2 =>
    if w2.1 = 0 then
      some ((-2), w2.2)
    else
      if ib a1 4 then
      if (w2.2 96 (ix a1)) = 5 then
        some ((-4), w2.2)
      else
        if ib a1 4 then
        if ib ((5 * a1) + (w2.2 96 (ix a1))) 20 then
        if ib a1 4 then
        if ib a1 4 then
        if ib a1 4 then
        some (((wr (wr w2.2 95 (ix ((5 * a1) + (w2.2 96 (ix a1)))) a2) 96 (ix a1) (((wr w2.2 95 (ix ((5 * a1) + (w2.2 96 (ix a1)))) a2) 96 (ix a1)) + 1)) 96 (ix a1)), (wr (wr w2.2 95 (ix ((5 * a1) + (w2.2 96 (ix a1)))) a2) 96 (ix a1) (((wr w2.2 95 (ix ((5 * a1) + (w2.2 96 (ix a1)))) a2) 96 (ix a1)) + 1)))
        else none
        else none
        else none
        else none
        else none
      else none
def fM_clear (a1 : Int32) (M : Mem) : Option (Int32 × Mem) :=
  (fM_isMaid a1 M).bind fun w1 =>
  if w1.1 = 0 then
    some ((-2), w1.2)
  else
    if ib a1 4 then
    if ib a1 4 then
    some ((w1.2 96 (ix a1)), (wr w1.2 96 (ix a1) 0))
    else none
    else none
def fM_isBeside_b77 (M : Mem) : Option (Int32 × Mem) :=
  some (1, M)
def fM_isBeside_b64 (a3 : Int32) (M : Mem) : Option (Int32 × Mem) :=
  if a3 = 3 then
    if (M 85 7) ≤ 1 then
      some (0, M)
    else
      fM_isBeside_b77 M
  else
    some (0, M)
def fM_isBeside_b21 (a3 : Int32) (s0 : Int32) (M : Mem) : Option (Int32 × Mem) :=
  if (s0 - a3) = 1 then
    if a3 = 3 then
      some (0, M)
    else
      some (1, M)
  else
    if (s0 - a3) = 4 then
      if a3 = 0 then
        if ((M 85 7) - (M 85 7) / 2 * 2) = 1 then
          fM_isBeside_b77 M
        else
          fM_isBeside_b64 a3 M
      else
        fM_isBeside_b64 a3 M
    else
      some (0, M)
def fM_isBeside_b10 (a1 : Int32) (a2 : Int32) (s0 : Int32) (M : Mem) : Option (Int32 × Mem) :=
  if a2 ≤ a1 then
    fM_isBeside_b21 s0 a1 M
  else
    fM_isBeside_b21 s0 a2 M
def fM_isBeside (a1 : Int32) (a2 : Int32) (M : Mem) : Option (Int32 × Mem) :=
  if a2 ≤ a1 then
    fM_isBeside_b10 a1 a2 a2 M
  else
    fM_isBeside_b10 a1 a2 a1 M
def fM_gathers_b141 (k65 : Int32 → Mem → Option (Mem)) (k73 : Int32 → Mem → Option (Mem)) (k81 : Int32 → Mem → Option (Mem)) (a1 : Int32) (a2 : Int32) (a3 : Int32) (M : Mem) : Option (Mem) :=
  k81 (a3 + 1) M
def fM_gathers_b81 (k65 : Int32 → Mem → Option (Mem)) (k73 : Int32 → Mem → Option (Mem)) (a1 : Int32) (a2 : Int32) : Nat → Int32 → Mem → Option (Mem)
  | 0, _, _ => none
  | z + 1, a3, M =>
    if 8 ≤ a3 then
      k73 (a2 + 1) M
    else
      if ib ((8 * a2) + a1) 64 then
      if ib ((8 * a1) + a3) 64 then
      if ib ((8 * a2) + a3) 64 then
      if (M 97 (ix ((8 * a2) + a3))) ≤ ((M 97 (ix ((8 * a2) + a1))) + (M 97 (ix ((8 * a1) + a3)))) then
        fM_gathers_b141 k65 k73 (fM_gathers_b81 k65 k73 a1 a2 z) a1 a2 a3 M
      else
        if ib ((8 * a2) + a3) 64 then
        fM_gathers_b141 k65 k73 (fM_gathers_b81 k65 k73 a1 a2 z) a1 a2 a3 (wr M 97 (ix ((8 * a2) + a3)) ((M 97 (ix ((8 * a2) + a1))) + (M 97 (ix ((8 * a1) + a3)))))
        else none
      else none
      else none
      else none
def fM_gathers_b73 (k65 : Int32 → Mem → Option (Mem)) (a1 : Int32) : Nat → Int32 → Mem → Option (Mem)
  | 0, _, _ => none
  | z + 1, a2, M =>
    if 8 ≤ a2 then
      k65 (a1 + 1) M
    else
      fM_gathers_b81 k65 (fM_gathers_b73 k65 a1 z) a1 a2 1000 0 M
def fM_gathers_b65 : Nat → Int32 → Mem → Option (Mem)
  | 0, _, _ => none
  | z + 1, a1, M =>
    if 8 ≤ a1 then
      some M
    else
      fM_gathers_b73 (fM_gathers_b65 z) a1 1000 0 M
def fM_gathers_b50 (k2 : Int32 → Mem → Option (Mem)) (k10 : Int32 → Mem → Option (Mem)) (a1 : Int32) (a2 : Int32) (s0 : Int32) (s1 : Int32) (M : Mem) : Option (Mem) :=
  if ib s1 64 then
  k10 (a2 + 1) (wr M 97 (ix s1) s0)
  else none
def fM_gathers_b10 (k2 : Int32 → Mem → Option (Mem)) (a1 : Int32) : Nat → Int32 → Mem → Option (Mem)
  | 0, _, _ => none
  | z + 1, a2, M =>
    if 8 ≤ a2 then
      k2 (a1 + 1) M
    else
      if a1 = a2 then
        fM_gathers_b50 k2 (fM_gathers_b10 k2 a1 z) a1 a2 0 ((8 * a1) + a2) M
      else
        (fM_isBeside a1 a2 M).bind fun w1 =>
        if w1.1 = 0 then
          fM_gathers_b50 k2 (fM_gathers_b10 k2 a1 z) a1 a2 8 ((8 * a1) + a2) w1.2
        else
          fM_gathers_b50 k2 (fM_gathers_b10 k2 a1 z) a1 a2 1 ((8 * a1) + a2) w1.2
def fM_gathers_b2 : Nat → Int32 → Mem → Option (Mem)
  | 0, _, _ => none
  | z + 1, a1, M =>
    if 8 ≤ a1 then
      fM_gathers_b65 1000 0 M
    else
      fM_gathers_b10 (fM_gathers_b2 z) a1 1000 0 M
def fM_gathers (M : Mem) : Option (Mem) :=
  fM_gathers_b2 1000 0 M
def fM_nextTo_b79 (k28 : Int32 → Int32 → Mem → Option (Int32 × Mem)) (a1 : Int32) (a2 : Int32) (a3 : Int32) (a4 : Int32) (M : Mem) : Option (Int32 × Mem) :=
  k28 a3 (a4 + 1) M
def fM_nextTo_b76 (k28 : Int32 → Int32 → Mem → Option (Int32 × Mem)) (a1 : Int32) (a2 : Int32) (a4 : Int32) (M : Mem) : Option (Int32 × Mem) :=
  fM_nextTo_b79 k28 a1 a2 a4 a4 M
def fM_nextTo_b28 (a1 : Int32) (a2 : Int32) : Nat → Int32 → Int32 → Mem → Option (Int32 × Mem)
  | 0, _, _, _ => none
  | z + 1, a3, a4, M =>
    if 8 ≤ a4 then
      some (a3, M)
    else
      (fM_isBeside a1 a4 M).bind fun w1 =>
      if w1.1 = 0 then
        fM_nextTo_b79 (fM_nextTo_b28 a1 a2 z) a1 a2 a3 a4 w1.2
      else
        if a3 = (-1) then
          fM_nextTo_b76 (fM_nextTo_b28 a1 a2 z) a1 a2 a4 w1.2
        else
          if ib ((8 * a4) + a2) 64 then
          if ib ((8 * a3) + a2) 64 then
          if (w1.2 97 (ix ((8 * a3) + a2))) ≤ (w1.2 97 (ix ((8 * a4) + a2))) then
            fM_nextTo_b79 (fM_nextTo_b28 a1 a2 z) a1 a2 a3 a4 w1.2
          else
            fM_nextTo_b76 (fM_nextTo_b28 a1 a2 z) a1 a2 a4 w1.2
          else none
          else none
def fM_nextTo (a1 : Int32) (a2 : Int32) (M : Mem) : Option (Int32 × Mem) :=
  if a1 = a2 then
    some ((-1), M)
  else
    if ib ((8 * a1) + a2) 64 then
    if (M 97 (ix ((8 * a1) + a2))) ≤ 7 then
      fM_nextTo_b28 a1 a2 1000 (-1) 0 M
    else
      some ((-1), M)
    else none
def fM_way (a1 : Int32) (a2 : Int32) (a3 : Int32) (M : Mem) : Option (Int32 × Mem) :=
  (fM_isRoom a1 M).bind fun w1 =>
  if w1.1 = 0 then
    some ((-2), w1.2)
  else
    (fM_isRoom a2 w1.2).bind fun w2 =>
    if w2.1 = 0 then
      some ((-2), w2.2)
    else
      (fM_in (a3.toInt64) (0 : Int64) (1 : Int64) w2.2).bind fun w3 =>
      if w3.1 = 0 then
        some ((-2), w3.2)
      else
        (fM_gathers w3.2).bind fun M4 =>
        if a3 = 0 then
          if ib ((8 * a1) + a2) 64 then
          some ((M4 97 (ix ((8 * a1) + a2))), M4)
          else none
        else
          (fM_nextTo a1 a2 M4).bind fun w5 =>
          some (w5.1, w5.2)
def fM_masterIn_b40 : Nat → Int32 → Int32 → Mem → Option (Int32 × Mem)
  | 0, _, _, _ => none
  | z + 1, a3, a4, M =>
    if ib a4 8 then
    if a3 < (M 91 (ix a4)) then
      if ib a4 8 then
      some ((M 90 (ix a4)), M)
      else none
    else
      if ib a4 8 then
      fM_masterIn_b40 z (a3 - (M 91 (ix a4))) (a4 + 1) M
      else none
    else none
def fM_masterIn_b4 (a1 : Int32) : Nat → Int32 → Int32 → Mem → Option (Int32 × Mem)
  | 0, _, _, _ => none
  | z + 1, a2, a3, M =>
    if (M 85 11) ≤ a3 then
      if a2 = 0 then
        some ((-1), M)
      else
        if a2 = 0 then none else
        fM_masterIn_b40 1000 (a1 - a1 / a2 * a2) 0 M
    else
      if ib a3 8 then
      fM_masterIn_b4 a1 z (a2 + (M 91 (ix a3))) (a3 + 1) M
      else none
def fM_masterIn (a1 : Int32) (M : Mem) : Option (Int32 × Mem) :=
  fM_masterIn_b4 a1 1000 0 0 M
def fM_master (a1 : Int32) (M : Mem) : Option (Int32 × Mem) :=
  (fM_in (a1.toInt64) (0 : Int64) (99 : Int64) M).bind fun w1 =>
  if w1.1 = 0 then
    some ((-2), w1.2)
  else
    (fM_masterIn a1 w1.2).bind fun w2 =>
    some (w2.1, w2.2)
def fM_free_b49 (a3 : Int32) (M : Mem) : Option (Int32 × Mem) :=
  some (a3, M)
def fM_free_b24 (a1 : Int32) (a2 : Int32) : Nat → Int32 → Mem → Option (Int32 × Mem)
  | 0, _, _ => none
  | z + 1, a3, M =>
    if 100 ≤ (a2 + a3) then
      fM_free_b49 a3 M
    else
      (fM_masterIn (a2 + a3) M).bind fun w3 =>
      if w3.1 = a1 then
        fM_free_b49 a3 w3.2
      else
        fM_free_b24 a1 a2 z (a3 + 1) w3.2
def fM_free (a1 : Int32) (a2 : Int32) (M : Mem) : Option (Int32 × Mem) :=
  (fM_isRoom a1 M).bind fun w1 =>
  if w1.1 = 0 then
    some ((-2), w1.2)
  else
    (fM_in (a2.toInt64) (0 : Int64) (99 : Int64) w1.2).bind fun w2 =>
    if w2.1 = 0 then
      some ((-2), w2.2)
    else
      fM_free_b24 a1 a2 1000 0 w2.2
def fM_longestOf_b54 (k12 : Int32 → Int32 → Int32 → Mem → Option (Int32 × Mem)) (a1 : Int32) (a2 : Int32) (a3 : Int32) (a4 : Int32) (M : Mem) : Option (Int32 × Mem) :=
  k12 a2 a3 (a4 + 1) M
def fM_longestOf_b36 (k12 : Int32 → Int32 → Int32 → Mem → Option (Int32 × Mem)) (a1 : Int32) (a2 : Int32) (a4 : Int32) (s0 : Int32) (M : Mem) : Option (Int32 × Mem) :=
  if s0 ≤ a2 then
    fM_longestOf_b54 k12 a1 a2 s0 a4 M
  else
    fM_longestOf_b54 k12 a1 s0 s0 a4 (wr M 85 20 ((a4 - s0) + 1))
def fM_longestOf_b12 (a1 : Int32) : Nat → Int32 → Int32 → Int32 → Mem → Option (Int32 × Mem)
  | 0, _, _, _, _ => none
  | z + 1, a2, a3, a4, M =>
    if 100 ≤ a4 then
      some (a2, M)
    else
      (fM_masterIn a4 M).bind fun w1 =>
      if w1.1 = a1 then
        fM_longestOf_b36 (fM_longestOf_b12 a1 z) a1 a2 a4 0 w1.2
      else
        fM_longestOf_b36 (fM_longestOf_b12 a1 z) a1 a2 a4 (a3 + 1) w1.2
def fM_longestOf (a1 : Int32) (M : Mem) : Option (Int32 × Mem) :=
  fM_longestOf_b12 a1 1000 0 0 0 (wr M 85 20 (-1))
def fM_longest (a1 : Int32) (a2 : Int32) (M : Mem) : Option (Int32 × Mem) :=
  (fM_isRoom a1 M).bind fun w1 =>
  if w1.1 = 0 then
    some ((-2), w1.2)
  else
    (fM_in (a2.toInt64) (0 : Int64) (1 : Int64) w1.2).bind fun w2 =>
    if w2.1 = 0 then
      some ((-2), w2.2)
    else
      (fM_longestOf a1 w2.2).bind fun w3 =>
      if a2 = 0 then
        some (w3.1, w3.2)
      else
        some ((w3.2 85 20), w3.2)
def fM_never_b40 (k19 : Int32 → Int32 → Mem → Option (Int32 × Mem)) (a1 : Int32) (a3 : Int32) (s0 : Int32) (s1 : Int32) (M : Mem) : Option (Int32 × Mem) :=
  k19 (s1 ||| (s0 <<< (a3 &&& 31))) (a3 + 1) M
def fM_never_b19 (a1 : Int32) : Nat → Int32 → Int32 → Mem → Option (Int32 × Mem)
  | 0, _, _, _ => none
  | z + 1, a2, a3, M =>
    if 8 ≤ a3 then
      some (a2, M)
    else
      (fM_longestOf a3 M).bind fun w2 =>
      if a1 ≤ w2.1 then
        fM_never_b40 (fM_never_b19 a1 z) a1 a3 0 a2 w2.2
      else
        fM_never_b40 (fM_never_b19 a1 z) a1 a3 1 a2 w2.2
def fM_never (a1 : Int32) (M : Mem) : Option (Int32 × Mem) :=
  (fM_in (a1.toInt64) (0 : Int64) (100 : Int64) M).bind fun w1 =>
  if w1.1 = 0 then
    some ((-2), w1.2)
  else
    fM_never_b19 a1 1000 0 0 w1.2
def fM_feed (a1 : Int32) (M : Mem) : Option (Int32 × Mem) :=
  (fM_in (a1.toInt64) (0 : Int64) (255 : Int64) M).bind fun w1 =>
  if w1.1 = 0 then
    some ((-2), w1.2)
  else
    if (w1.2 85 6) = 160 then
      some ((-4), w1.2)
    else
      if ib (w1.2 85 6) 160 then
      some (((wr (wr w1.2 88 (ix (w1.2 85 6)) a1) 85 6 (((wr w1.2 88 (ix (w1.2 85 6)) a1) 85 6) + 1)) 85 6), (wr (wr w1.2 88 (ix (w1.2 85 6)) a1) 85 6 (((wr w1.2 88 (ix (w1.2 85 6)) a1) 85 6) + 1)))
      else none
def fM_byteAt (a1 : Int32) (M : Mem) : Option (Int32 × Mem) :=
  if (M 85 28) ≤ a1 then
    some ((-1), M)
  else
    if ib ((M 85 27) + a1) 960 then
    some ((M 86 (ix ((M 85 27) + a1))), M)
    else none
def fM_next_b26 (k0 : Mem → Option (Mem)) (M : Mem) : Option (Mem) :=
  k0 (wr M 85 29 ((M 85 29) + 1))
def fM_next_b300 (a1 : Int32) (M : Mem) : Option (Mem) :=
  some (wr (wr (wr (wr M 85 30 3) 85 132 (lgHi (a1.toInt64))) 85 32 (lgLo (a1.toInt64))) 85 29 (((wr (wr (wr M 85 30 3) 85 132 (lgHi (a1.toInt64))) 85 32 (lgLo (a1.toInt64))) 85 29) + 1))
def fM_next_b246 (s0 : Int32) (M : Mem) : Option (Mem) :=
  some (wr M 85 30 s0)
def fM_next_b216 (k160 : Int32 → Mem → Option (Mem)) (a2 : Int32) (s0 : Int64) (M : Mem) : Option (Mem) :=
  k160 (a2 + 1) (wr (wr (wr M 85 132 (lgHi s0)) 85 32 (lgLo s0)) 85 29 (((wr (wr M 85 132 (lgHi s0)) 85 32 (lgLo s0)) 85 29) + 1))
def fM_next_b160 : Nat → Int32 → Mem → Option (Mem)
  | 0, _, _ => none
  | z + 1, a2, M =>
    (fM_byteAt (M 85 29) M).bind fun w6 =>
    (fM_in (w6.1.toInt64) (48 : Int64) (57 : Int64) w6.2).bind fun w7 =>
    if w7.1 = 0 then
      if a2 ≤ 4 then
        fM_next_b246 2 w7.2
      else
        fM_next_b246 4 w7.2
    else
      if 4 ≤ a2 then
        fM_next_b216 (fM_next_b160 z) a2 (lgc (w7.2 85 132) (w7.2 85 32)) w7.2
      else
        (fM_byteAt (w7.2 85 29) w7.2).bind fun w8 =>
        fM_next_b216 (fM_next_b160 z) a2 ((((10 : Int64) * (lgc (w7.2 85 132) (w7.2 85 32))) + (w8.1.toInt64)) - (48 : Int64)) w8.2
def fM_next_b100 : Nat → Mem → Option (Mem)
  | 0, _ => none
  | z + 1, M =>
    (fM_byteAt (M 85 29) M).bind fun w9 =>
    (fM_in (w9.1.toInt64) (97 : Int64) (122 : Int64) w9.2).bind fun w10 =>
    if w10.1 = 0 then
      some w10.2
    else
      fM_next_b100 z (wr w10.2 85 29 ((w10.2 85 29) + 1))
def fM_next_b0 : Nat → Mem → Option (Mem)
  | 0, _ => none
  | z + 1, M =>
    (fM_byteAt (M 85 29) M).bind fun w1 =>
    if w1.1 = 32 then
      fM_next_b26 (fM_next_b0 z) w1.2
    else
      (fM_byteAt (w1.2 85 29) w1.2).bind fun w2 =>
      if w2.1 = 10 then
        fM_next_b26 (fM_next_b0 z) w2.2
      else
        (fM_byteAt ((wr w2.2 85 31 (w2.2 85 29)) 85 29) (wr w2.2 85 31 (w2.2 85 29))).bind fun w3 =>
        if 0 ≤ w3.1 then
          (fM_in (w3.1.toInt64) (97 : Int64) (122 : Int64) (wr w3.2 85 30 4)).bind fun w4 =>
          if w4.1 = 0 then
            (fM_in (w3.1.toInt64) (48 : Int64) (57 : Int64) w4.2).bind fun w5 =>
            if w5.1 = 0 then
              if w3.1 = 40 then
                fM_next_b300 w3.1 w5.2
              else
                if w3.1 = 41 then
                  fM_next_b300 w3.1 w5.2
                else
                  if w3.1 = 59 then
                    fM_next_b300 w3.1 w5.2
                  else
                    if w3.1 = 43 then
                      fM_next_b300 w3.1 w5.2
                    else
                      if w3.1 = 45 then
                        fM_next_b300 w3.1 w5.2
                      else
                        if w3.1 = 42 then
                          fM_next_b300 w3.1 w5.2
                        else
                          if w3.1 = 60 then
                            fM_next_b300 w3.1 w5.2
                          else
                            if w3.1 = 61 then
                              fM_next_b300 w3.1 w5.2
                            else
                              some w5.2
            else
              fM_next_b160 1000 0 (wr (wr (wr w5.2 85 30 2) 85 132 (lgHi (0 : Int64))) 85 32 (lgLo (0 : Int64)))
          else
            fM_next_b100 1000 (wr w4.2 85 30 1)
        else
          some (wr (wr (wr w3.2 85 30 4) 85 30 0) 85 31 ((wr (wr w3.2 85 30 4) 85 30 0) 85 28))
def fM_next (M : Mem) : Option (Mem) :=
  fM_next_b0 1000 M
def fM_fail (M : Mem) : Option (Mem) :=
  if (M 85 34) = 0 then
    some (wr (wr M 85 34 1) 85 35 ((wr M 85 34 1) 85 31))
  else
    some M
def fM_isLetter (a1 : Int32) (a2 : Int32) (M : Mem) : Option (Int32 × Mem) :=
  if (M 85 29) ≤ ((M 85 31) + a1) then
    if a2 = 0 then
      some (1, M)
    else
      some (0, M)
  else
    (fM_byteAt ((M 85 31) + a1) M).bind fun w1 =>
    if w1.1 = a2 then
      some (1, w1.2)
    else
      some (0, w1.2)
def fM_isWord (a1 : Int32) (a2 : Int32) (a3 : Int32) (a4 : Int32) (a5 : Int32) (a6 : Int32) (a7 : Int32) (a8 : Int32) (M : Mem) : Option (Int32 × Mem) :=
  if (M 85 34) = 0 then
    if (M 85 30) = 1 then
      if ((M 85 31) + 8) < (M 85 29) then
        some (0, M)
      else
        (fM_isLetter 0 a1 M).bind fun w1 =>
        if w1.1 = 0 then
          some (0, w1.2)
        else
          (fM_isLetter 1 a2 w1.2).bind fun w2 =>
          if w2.1 = 0 then
            some (0, w2.2)
          else
            (fM_isLetter 2 a3 w2.2).bind fun w3 =>
            if w3.1 = 0 then
              some (0, w3.2)
            else
              (fM_isLetter 3 a4 w3.2).bind fun w4 =>
              if w4.1 = 0 then
                some (0, w4.2)
              else
                (fM_isLetter 4 a5 w4.2).bind fun w5 =>
                if w5.1 = 0 then
                  some (0, w5.2)
                else
                  (fM_isLetter 5 a6 w5.2).bind fun w6 =>
                  if w6.1 = 0 then
                    some (0, w6.2)
                  else
                    (fM_isLetter 6 a7 w6.2).bind fun w7 =>
                    if w7.1 = 0 then
                      some (0, w7.2)
                    else
                      (fM_isLetter 7 a8 w7.2).bind fun w8 =>
                      if w8.1 = 0 then
                        some (0, w8.2)
                      else
                        some (1, w8.2)
    else
      some (0, M)
  else
    some (0, M)
def fM_isSign (a1 : Int32) (M : Mem) : Option (Int32 × Mem) :=
  if (M 85 34) = 0 then
    if (M 85 30) = 3 then
      if (lg_cmp (lgc (M 85 132) (M 85 32)) (a1.toInt64)) = 0 then
        some (1, M)
      else
        some (0, M)
    else
      some (0, M)
  else
    some (0, M)
def fM_opens (M : Mem) : Option (Int32 × Mem) :=
  if (M 85 33) = 5 then
    (fM_fail M).bind fun M1 =>
    some (0, M1)
  else
    (fM_next (wr M 85 33 ((M 85 33) + 1))).bind fun M2 =>
    some (1, M2)
def fM_name (M : Mem) : Option (Int32 × Mem) :=
  (fM_isWord 109 105 110 117 116 101 0 0 M).bind fun w1 =>
  if w1.1 = 0 then
    (fM_isWord 114 111 111 109 0 0 0 0 w1.2).bind fun w2 =>
    if w2.1 = 0 then
      (fM_isWord 108 101 102 116 0 0 0 0 w2.2).bind fun w3 =>
      if w3.1 = 0 then
        (fM_isWord 110 117 109 98 101 114 0 0 w3.2).bind fun w4 =>
        if w4.1 = 0 then
          (fM_isWord 98 101 115 105 100 101 0 0 w4.2).bind fun w5 =>
          if w5.1 = 0 then
            (fM_isWord 109 97 105 100 115 0 0 0 w5.2).bind fun w6 =>
            if w6.1 = 0 then
              (fM_fail w6.2).bind fun M7 =>
              some (0, M7)
            else
              some ((w6.2 85 26), w6.2)
          else
            some ((w5.2 85 25), w5.2)
        else
          some ((w4.2 85 24), w4.2)
      else
        some ((w3.2 85 23), w3.2)
    else
      some ((w2.2 85 22), w2.2)
  else
    some ((w1.2 85 21), w1.2)
def fM_term_b5 (rc : Nat → Mem → Option (Int32 × Mem)) : Nat → Int32 → Mem → Option (Int32 × Mem)
  | 0, _, _ => none
  | z + 1, a1, M =>
    (fM_isSign 42 M).bind fun w2 =>
    if w2.1 = 0 then
      some (a1, w2.2)
    else
      (fM_next w2.2).bind fun M3 =>
      (rc 5 M3).bind fun w4 =>
      fM_term_b5 rc z (a1 * w4.1) w4.2
def fM_term (rc : Nat → Mem → Option (Int32 × Mem)) (M : Mem) : Option (Int32 × Mem) :=
  (rc 5 M).bind fun w1 =>
  fM_term_b5 rc 1000 w1.1 w1.2
def fM_added_b62 (rc : Nat → Mem → Option (Int32 × Mem)) (k5 : Int32 → Mem → Option (Int32 × Mem)) (s0 : Int32) (M : Mem) : Option (Int32 × Mem) :=
  k5 s0 M
def fM_added_b39 (rc : Nat → Mem → Option (Int32 × Mem)) (k5 : Int32 → Mem → Option (Int32 × Mem)) (a1 : Int32) (s0 : Int32) (M : Mem) : Option (Int32 × Mem) :=
  (fM_next M).bind fun M4 =>
  (rc 4 M4).bind fun w5 =>
  if s0 = 0 then
    fM_added_b62 rc k5 (a1 - w5.1) w5.2
  else
    fM_added_b62 rc k5 (a1 + w5.1) w5.2
def fM_added_b23 (rc : Nat → Mem → Option (Int32 × Mem)) (k5 : Int32 → Mem → Option (Int32 × Mem)) (a1 : Int32) (M : Mem) : Option (Int32 × Mem) :=
  if (lg_cmp (lgc (M 85 132) (M 85 32)) (43 : Int64)) = 0 then
    fM_added_b39 rc k5 a1 1 M
  else
    fM_added_b39 rc k5 a1 0 M
def fM_added_b5 (rc : Nat → Mem → Option (Int32 × Mem)) : Nat → Int32 → Mem → Option (Int32 × Mem)
  | 0, _, _ => none
  | z + 1, a1, M =>
    (fM_isSign 43 M).bind fun w2 =>
    if w2.1 = 0 then
      (fM_isSign 45 w2.2).bind fun w3 =>
      if w3.1 = 0 then
        some (a1, w3.2)
      else
        fM_added_b23 rc (fM_added_b5 rc z) a1 w3.2
    else
      fM_added_b23 rc (fM_added_b5 rc z) a1 w2.2
def fM_added (rc : Nat → Mem → Option (Int32 × Mem)) (M : Mem) : Option (Int32 × Mem) :=
  (rc 4 M).bind fun w1 =>
  fM_added_b5 rc 1000 w1.1 w1.2
def fM_not_b120 (rc : Nat → Mem → Option (Int32 × Mem)) (M : Mem) : Option (Int32 × Mem) :=
  some (1, M)
def fM_not_b93 (rc : Nat → Mem → Option (Int32 × Mem)) (a1 : Int32) (s0 : Int32) (M : Mem) : Option (Int32 × Mem) :=
  (fM_next M).bind fun M5 =>
  (rc 3 M5).bind fun w6 =>
  if s0 = 0 then
    if a1 = w6.1 then
      fM_not_b120 rc w6.2
    else
      some (0, w6.2)
  else
    if w6.1 ≤ a1 then
      some (0, w6.2)
    else
      fM_not_b120 rc w6.2
def fM_not_b77 (rc : Nat → Mem → Option (Int32 × Mem)) (a1 : Int32) (M : Mem) : Option (Int32 × Mem) :=
  if (lg_cmp (lgc (M 85 132) (M 85 32)) (60 : Int64)) = 0 then
    fM_not_b93 rc a1 1 M
  else
    fM_not_b93 rc a1 0 M
def fM_not (rc : Nat → Mem → Option (Int32 × Mem)) (M : Mem) : Option (Int32 × Mem) :=
  (fM_isWord 110 111 116 0 0 0 0 0 M).bind fun w1 =>
  if w1.1 = 0 then
    (rc 3 w1.2).bind fun w2 =>
    (fM_isSign 60 w2.2).bind fun w3 =>
    if w3.1 = 0 then
      (fM_isSign 61 w3.2).bind fun w4 =>
      if w4.1 = 0 then
        some (w2.1, w4.2)
      else
        fM_not_b77 rc w2.1 w4.2
    else
      fM_not_b77 rc w2.1 w3.2
  else
    (fM_opens w1.2).bind fun w7 =>
    if w7.1 = 0 then
      some (0, w7.2)
    else
      (rc 2 w7.2).bind fun w8 =>
      if w8.1 = 0 then
        some (1, (wr w8.2 85 33 ((w8.2 85 33) - 1)))
      else
        some (0, (wr w8.2 85 33 ((w8.2 85 33) - 1)))
def fM_both_b45 (rc : Nat → Mem → Option (Int32 × Mem)) (k5 : Int32 → Mem → Option (Int32 × Mem)) (s0 : Int32) (M : Mem) : Option (Int32 × Mem) :=
  k5 s0 M
def fM_both_b44 (rc : Nat → Mem → Option (Int32 × Mem)) (k5 : Int32 → Mem → Option (Int32 × Mem)) (M : Mem) : Option (Int32 × Mem) :=
  fM_both_b45 rc k5 0 M
def fM_both_b5 (rc : Nat → Mem → Option (Int32 × Mem)) : Nat → Int32 → Mem → Option (Int32 × Mem)
  | 0, _, _ => none
  | z + 1, a1, M =>
    (fM_isWord 97 110 100 0 0 0 0 0 M).bind fun w2 =>
    if w2.1 = 0 then
      some (a1, w2.2)
    else
      (fM_next w2.2).bind fun M3 =>
      (rc 2 M3).bind fun w4 =>
      if a1 = 0 then
        fM_both_b44 rc (fM_both_b5 rc z) w4.2
      else
        if w4.1 = 0 then
          fM_both_b44 rc (fM_both_b5 rc z) w4.2
        else
          fM_both_b45 rc (fM_both_b5 rc z) 1 w4.2
def fM_both (rc : Nat → Mem → Option (Int32 × Mem)) (M : Mem) : Option (Int32 × Mem) :=
  (rc 2 M).bind fun w1 =>
  fM_both_b5 rc 1000 w1.1 w1.2
def fM_either_b44 (rc : Nat → Mem → Option (Int32 × Mem)) (k5 : Int32 → Mem → Option (Int32 × Mem)) (s0 : Int32) (M : Mem) : Option (Int32 × Mem) :=
  k5 s0 M
def fM_either_b39 (rc : Nat → Mem → Option (Int32 × Mem)) (k5 : Int32 → Mem → Option (Int32 × Mem)) (M : Mem) : Option (Int32 × Mem) :=
  fM_either_b44 rc k5 1 M
def fM_either_b5 (rc : Nat → Mem → Option (Int32 × Mem)) : Nat → Int32 → Mem → Option (Int32 × Mem)
  | 0, _, _ => none
  | z + 1, a1, M =>
    (fM_isWord 111 114 0 0 0 0 0 0 M).bind fun w2 =>
    if w2.1 = 0 then
      some (a1, w2.2)
    else
      (fM_next w2.2).bind fun M3 =>
      (rc 1 M3).bind fun w4 =>
      if a1 = 0 then
        if w4.1 = 0 then
          fM_either_b44 rc (fM_either_b5 rc z) 0 w4.2
        else
          fM_either_b39 rc (fM_either_b5 rc z) w4.2
      else
        fM_either_b39 rc (fM_either_b5 rc z) w4.2
def fM_either (rc : Nat → Mem → Option (Int32 × Mem)) (M : Mem) : Option (Int32 × Mem) :=
  (rc 1 M).bind fun w1 =>
  fM_either_b5 rc 1000 w1.1 w1.2
def fM_atom_b161 (rc : Nat → Mem → Option (Int32 × Mem)) (a1 : Int32) (M : Mem) : Option (Int32 × Mem) :=
  some (a1, M)
def fM_atom_b157 (rc : Nat → Mem → Option (Int32 × Mem)) (a1 : Int32) (M : Mem) : Option (Int32 × Mem) :=
  (fM_fail M).bind fun M6 =>
  fM_atom_b161 rc a1 M6
def fM_atom_b123 (rc : Nat → Mem → Option (Int32 × Mem)) (a1 : Int32) (M : Mem) : Option (Int32 × Mem) :=
  if (M 85 34) = 0 then
    if (M 85 30) = 1 then
      (fM_name M).bind fun w4 =>
      if (w4.2 85 34) = 0 then
        (fM_next w4.2).bind fun M5 =>
        fM_atom_b161 rc w4.1 M5
      else
        fM_atom_b161 rc w4.1 w4.2
    else
      fM_atom_b157 rc a1 M
  else
    fM_atom_b157 rc a1 M
def fM_atom_b71 (rc : Nat → Mem → Option (Int32 × Mem)) (a1 : Int32) (M : Mem) : Option (Int32 × Mem) :=
  if ((wr M 85 33 ((M 85 33) - 1)) 85 34) = 0 then
    (fM_next (wr M 85 33 ((M 85 33) - 1))).bind fun M11 =>
    fM_atom_b161 rc a1 M11
  else
    fM_atom_b161 rc a1 (wr M 85 33 ((M 85 33) - 1))
def fM_atom (rc : Nat → Mem → Option (Int32 × Mem)) (M : Mem) : Option (Int32 × Mem) :=
  (fM_isSign 45 M).bind fun w1 =>
  if w1.1 = 0 then
    (fM_isSign 40 w1.2).bind fun w2 =>
    if w2.1 = 0 then
      if (w2.2 85 34) = 0 then
        if (w2.2 85 30) = 2 then
          (fM_next w2.2).bind fun M3 =>
          fM_atom_b161 rc ((lgc (w2.2 85 132) (w2.2 85 32)).toInt32) M3
        else
          fM_atom_b123 rc 0 w2.2
      else
        fM_atom_b123 rc 0 w2.2
    else
      (fM_opens w2.2).bind fun w7 =>
      if w7.1 = 0 then
        fM_atom_b161 rc 0 w7.2
      else
        (rc 0 w7.2).bind fun w8 =>
        (fM_isSign 41 w8.2).bind fun w9 =>
        if w9.1 = 0 then
          (fM_fail w9.2).bind fun M10 =>
          fM_atom_b71 rc w8.1 M10
        else
          fM_atom_b71 rc w8.1 w9.2
  else
    (fM_opens w1.2).bind fun w12 =>
    if w12.1 = 0 then
      fM_atom_b161 rc 0 w12.2
    else
      (rc 5 w12.2).bind fun w13 =>
      fM_atom_b161 rc (-w13.1) (wr w13.2 85 33 ((w13.2 85 33) - 1))
def f_rM : Nat → Nat → Mem → Option (Int32 × Mem)
  | 0, _, _ => none
  | d + 1, w, M =>
    if w = 0 then fM_either (f_rM d) M else if w = 1 then fM_both (f_rM d) M else if w = 2 then fM_not (f_rM d) M else if w = 3 then fM_added (f_rM d) M else if w = 4 then fM_term (f_rM d) M else fM_atom (f_rM d) M
def fM_part_b59 (a2 : Int32) (M : Mem) : Option (Int32 × Mem) :=
  some (a2, M)
def fM_part_b48 (a2 : Int32) (M : Mem) : Option (Int32 × Mem) :=
  if (M 85 34) = 0 then
    (fM_next M).bind fun M6 =>
    fM_part_b59 a2 M6
  else
    fM_part_b59 a2 M
def fM_part_b34 (s0 : Int32) (M : Mem) : Option (Int32 × Mem) :=
  (fM_isSign 59 M).bind fun w4 =>
  if w4.1 = 0 then
    (fM_fail w4.2).bind fun M5 =>
    fM_part_b48 s0 M5
  else
    fM_part_b48 s0 w4.2
def fM_part_b19 (M : Mem) : Option (Int32 × Mem) :=
  if (M 85 34) = 0 then
    (f_rM 60 0 M).bind fun w3 =>
    fM_part_b34 w3.1 w3.2
  else
    fM_part_b34 0 M
def fM_part_b8 (M : Mem) : Option (Int32 × Mem) :=
  if (M 85 34) = 0 then
    (fM_next M).bind fun M2 =>
    fM_part_b19 M2
  else
    fM_part_b19 M
def fM_part (a1 : Int32) (M : Mem) : Option (Int32 × Mem) :=
  if a1 = 0 then
    (fM_fail M).bind fun M1 =>
    fM_part_b8 M1
  else
    fM_part_b8 M
def fM_read_b145 (a2 : Int32) (a3 : Int32) (a4 : Int32) (a5 : Int32) (M : Mem) : Option (Int32 × Mem) :=
  if a2 = 0 then
    some (a3, M)
  else
    if a2 = 1 then
      some (a4, M)
    else
      some (a5, M)
def fM_read_b125 (a2 : Int32) (a3 : Int32) (a4 : Int32) (s0 : Int32) (M : Mem) : Option (Int32 × Mem) :=
  if (M 85 34) = 0 then
    if (M 85 30) = 0 then
      fM_read_b145 a2 a3 a4 s0 M
    else
      (fM_fail M).bind fun M8 =>
      fM_read_b145 a2 a3 a4 s0 M8
  else
    fM_read_b145 a2 a3 a4 s0 M
def fM_read_b91 (a2 : Int32) (a3 : Int32) (s0 : Int32) (M : Mem) : Option (Int32 × Mem) :=
  if (M 85 34) = 0 then
    (fM_isWord 99 111 115 116 115 0 0 0 M).bind fun w6 =>
    (fM_part w6.1 w6.2).bind fun w7 =>
    fM_read_b125 a2 a3 s0 w7.1 w7.2
  else
    fM_read_b125 a2 a3 s0 0 M
def fM_read (a1 : Int32) (a2 : Int32) (M : Mem) : Option (Int32 × Mem) :=
  if ib a1 6 then
  (fM_next (wr (wr (wr (wr (wr M 85 27 (160 * a1)) 85 28 ((wr M 85 27 (160 * a1)) 87 (ix a1))) 85 29 0) 85 33 0) 85 34 0)).bind fun M1 =>
  (fM_isWord 115 116 101 112 115 0 0 0 M1).bind fun w2 =>
  (fM_part w2.1 w2.2).bind fun w3 =>
  if (w3.2 85 34) = 0 then
    (fM_isWord 100 111 101 115 0 0 0 0 w3.2).bind fun w4 =>
    (fM_part w4.1 w4.2).bind fun w5 =>
    fM_read_b91 a2 w3.1 w5.1 w5.2
  else
    fM_read_b91 a2 w3.1 0 w3.2
  else none
def fM_text_b14 : Nat → Int32 → Mem → Option (Int32 × Mem)
  | 0, _, _ => none
  | z + 1, a1, M =>
    if (M 85 6) ≤ a1 then
      if ib (M 85 3) 6 then
      (fM_read ((wr (wr M 87 (ix (M 85 3)) (M 85 6)) 85 6 0) 85 3) 0 (wr (wr M 87 (ix (M 85 3)) (M 85 6)) 85 6 0)).bind fun w1 =>
      if (w1.2 85 34) = 0 then
        some ((((wr w1.2 85 3 ((w1.2 85 3) + 1)) 85 3) - 1), (wr w1.2 85 3 ((w1.2 85 3) + 1)))
      else
        some (((-100) - (w1.2 85 35)), w1.2)
      else none
    else
      if ib a1 160 then
      if ib ((160 * (M 85 3)) + a1) 960 then
      fM_text_b14 z (a1 + 1) (wr M 86 (ix ((160 * (M 85 3)) + a1)) (M 88 (ix a1)))
      else none
      else none
def fM_text (M : Mem) : Option (Int32 × Mem) :=
  if (M 85 3) = 6 then
    some ((-4), M)
  else
    fM_text_b14 1000 0 M
def fM_force (a1 : Int32) (M : Mem) : Option (Int32 × Mem) :=
  (fM_in (a1.toInt64) (0 : Int64) (((M 85 3) - 1).toInt64) M).bind fun w1 =>
  if w1.1 = 0 then
    some ((-2), w1.2)
  else
    some ((w1.2 85 4), (wr w1.2 85 4 a1))
def fM_says_b155 (s0 : Int32) (s1 : Int32) (s2 : Int32) (M : Mem) : Option (Int32 × Mem) :=
  (fM_within s2 s1 s0 M).bind fun w2 =>
  some (w2.1, w2.2)
def fM_says_b143 (a1 : Int32) (s0 : Int32) (s1 : Int32) (M : Mem) : Option (Int32 × Mem) :=
  if a1 = 2 then
    fM_says_b155 99 s0 s1 M
  else
    fM_says_b155 9 s0 s1 M
def fM_says_b63 (k6 : Int32 → Int32 → Mem → Option (Int32 × Mem)) (a1 : Int32) (a2 : Int32) (a3 : Int32) (a4 : Int32) (a6 : Int32) (s0 : Int32) (s1 : Int32) (M : Mem) : Option (Int32 × Mem) :=
  k6 (s1 + s0) (a6 + 1) M
def fM_says_b62 (k6 : Int32 → Int32 → Mem → Option (Int32 × Mem)) (a1 : Int32) (a2 : Int32) (a3 : Int32) (a4 : Int32) (a6 : Int32) (s0 : Int32) (M : Mem) : Option (Int32 × Mem) :=
  fM_says_b63 k6 a1 a2 a3 a4 a6 0 s0 M
def fM_says_b6 (a1 : Int32) (a2 : Int32) (a3 : Int32) (a4 : Int32) : Nat → Int32 → Int32 → Mem → Option (Int32 × Mem)
  | 0, _, _, _ => none
  | z + 1, a5, a6, M =>
    if (M 85 17) ≤ a6 then
      if ib a2 4 then
      if ib a2 4 then
      if ib ((wr (wr M 85 21 a3) 85 22 ((wr M 85 21 a3) 98 (ix a2))) 98 (ix a2)) 8 then
      if ib a2 4 then
      (fM_read ((wr (wr (wr (wr (wr (wr M 85 21 a3) 85 22 ((wr M 85 21 a3) 98 (ix a2))) 85 23 ((wr (wr M 85 21 a3) 85 22 ((wr M 85 21 a3) 98 (ix a2))) 104 (ix ((wr (wr M 85 21 a3) 85 22 ((wr M 85 21 a3) 98 (ix a2))) 98 (ix a2))))) 85 24 ((wr (wr (wr M 85 21 a3) 85 22 ((wr M 85 21 a3) 98 (ix a2))) 85 23 ((wr (wr M 85 21 a3) 85 22 ((wr M 85 21 a3) 98 (ix a2))) 104 (ix ((wr (wr M 85 21 a3) 85 22 ((wr M 85 21 a3) 98 (ix a2))) 98 (ix a2))))) 93 (ix a2))) 85 25 a4) 85 26 a5) 85 4) a1 (wr (wr (wr (wr (wr (wr M 85 21 a3) 85 22 ((wr M 85 21 a3) 98 (ix a2))) 85 23 ((wr (wr M 85 21 a3) 85 22 ((wr M 85 21 a3) 98 (ix a2))) 104 (ix ((wr (wr M 85 21 a3) 85 22 ((wr M 85 21 a3) 98 (ix a2))) 98 (ix a2))))) 85 24 ((wr (wr (wr M 85 21 a3) 85 22 ((wr M 85 21 a3) 98 (ix a2))) 85 23 ((wr (wr M 85 21 a3) 85 22 ((wr M 85 21 a3) 98 (ix a2))) 104 (ix ((wr (wr M 85 21 a3) 85 22 ((wr M 85 21 a3) 98 (ix a2))) 98 (ix a2))))) 93 (ix a2))) 85 25 a4) 85 26 a5)).bind fun w1 =>
      if a1 = 2 then
        fM_says_b143 a1 0 w1.1 w1.2
      else
        fM_says_b143 a1 1 w1.1 w1.2
      else none
      else none
      else none
      else none
    else
      if a6 = a2 then
        fM_says_b62 (fM_says_b6 a1 a2 a3 a4 z) a1 a2 a3 a4 a6 a5 M
      else
        if a6 = (M 85 18) then
          fM_says_b62 (fM_says_b6 a1 a2 a3 a4 z) a1 a2 a3 a4 a6 a5 M
        else
          if ib a6 4 then
          if (M 99 (ix a6)) = 0 then
            if ib a6 4 then
            if ib a2 4 then
            if (M 98 (ix a6)) = (M 98 (ix a2)) then
              fM_says_b63 (fM_says_b6 a1 a2 a3 a4 z) a1 a2 a3 a4 a6 1 a5 M
            else
              fM_says_b62 (fM_says_b6 a1 a2 a3 a4 z) a1 a2 a3 a4 a6 a5 M
            else none
            else none
          else
            fM_says_b62 (fM_says_b6 a1 a2 a3 a4 z) a1 a2 a3 a4 a6 a5 M
          else none
def fM_says (a1 : Int32) (a2 : Int32) (a3 : Int32) (a4 : Int32) (M : Mem) : Option (Int32 × Mem) :=
  fM_says_b6 a1 a2 a3 a4 1000 0 0 M
def fM_takesOf_b66 (s0 : Int32) (M : Mem) : Option (Int32 × Mem) :=
  if 1 ≤ s0 then
    some (s0, M)
  else
    some (1, M)
def fM_takesOf_b17 (a1 : Int32) (a2 : Int32) (M : Mem) : Option (Int32 × Mem) :=
  if ib a1 4 then
  fM_takesOf_b66 (a2 - ((M 93 (ix a1)) / 3)) M
  else none
def fM_takesOf (a1 : Int32) (a2 : Int32) (M : Mem) : Option (Int32 × Mem) :=
  if ib a1 4 then
  if (M 92 (ix a1)) = 1 then
    fM_takesOf_b17 a1 a2 M
  else
    if (M 92 (ix a1)) = 3 then
      fM_takesOf_b17 a1 a2 M
    else
      if (M 92 (ix a1)) = 2 then
        fM_takesOf_b66 (a2 + 1) M
      else
        if (M 92 (ix a1)) = 4 then
          fM_takesOf_b66 (2 * (a2 + 1)) M
        else
          if (M 92 (ix a1)) = 5 then
            fM_takesOf_b66 (2 * a2) M
          else
            fM_takesOf_b66 a2 M
  else none
def fM_worksOf_b51 (s0 : Int32) (M : Mem) : Option (Int32 × Mem) :=
  if 1 ≤ s0 then
    some (s0, M)
  else
    some (1, M)
def fM_worksOf_b17 (a2 : Int32) (M : Mem) : Option (Int32 × Mem) :=
  fM_worksOf_b51 (a2 + 1) M
def fM_worksOf (a1 : Int32) (a2 : Int32) (M : Mem) : Option (Int32 × Mem) :=
  if ib a1 4 then
  if (M 92 (ix a1)) = 1 then
    fM_worksOf_b17 a2 M
  else
    if (M 92 (ix a1)) = 3 then
      fM_worksOf_b17 a2 M
    else
      if (M 92 (ix a1)) = 4 then
        if ib a1 4 then
        fM_worksOf_b51 (a2 + (M 93 (ix a1))) M
        else none
      else
        if (M 92 (ix a1)) = 5 then
          fM_worksOf_b51 (a2 / 2) M
        else
          fM_worksOf_b51 a2 M
  else none
def fM_aimOf (a1 : Int32) (M : Mem) : Option (Int32 × Mem) :=
  if ib a1 4 then
  if ib a1 4 then
  if (M 96 (ix a1)) ≤ (M 101 (ix a1)) then
    some ((-1), M)
  else
    if ib a1 4 then
    if ib ((5 * a1) + (M 101 (ix a1))) 20 then
    some ((M 95 (ix ((5 * a1) + (M 101 (ix a1))))), M)
    else none
    else none
  else none
  else none
def fM_startsOff_b32 : Nat → Int32 → Mem → Option (Mem)
  | 0, _, _ => none
  | z + 1, a1, M =>
    if 4 ≤ a1 then
      some (wr (wr M 85 43 0) 85 44 (-1))
    else
      if ib a1 4 then
      if ib a1 4 then
      if ib a1 4 then
      if ib a1 4 then
      if ib a1 4 then
      if ib a1 4 then
      fM_startsOff_b32 z (a1 + 1) (wr (wr (wr (wr (wr M 98 (ix a1) (M 94 (ix a1))) 99 (ix a1) 0) 101 (ix a1) 0) 102 (ix a1) 0) 103 (ix a1) 0)
      else none
      else none
      else none
      else none
      else none
      else none
def fM_startsOff_b6 : Nat → Int32 → Mem → Option (Mem)
  | 0, _, _ => none
  | z + 1, a1, M =>
    if 8 ≤ a1 then
      fM_startsOff_b32 1000 0 M
    else
      if ib a1 8 then
      if ib a1 8 then
      fM_startsOff_b6 z (a1 + 1) (wr M 104 (ix a1) (M 89 (ix a1)))
      else none
      else none
def fM_startsOff (M : Mem) : Option (Mem) :=
  (fM_gathers M).bind fun M1 =>
  fM_startsOff_b6 1000 0 M1
def fM_acts_b198 (s0 : Int32) (s1 : Int32) (s2 : Int32) (M : Mem) : Option (Mem) :=
  if ib s2 4 then
  some (wr M 101 (ix s2) (s1 + s0))
  else none
def fM_acts_b180 (a1 : Int32) (a6 : Int32) (s0 : Int32) (s1 : Int32) (M : Mem) : Option (Mem) :=
  if ib s1 8 then
  if ib a1 4 then
  if 0 < a6 then
    fM_acts_b198 0 ((wr M 104 (ix s1) s0) 101 (ix a1)) a1 (wr M 104 (ix s1) s0)
  else
    fM_acts_b198 1 ((wr M 104 (ix s1) s0) 101 (ix a1)) a1 (wr M 104 (ix s1) s0)
  else none
  else none
def fM_acts_b269 (a1 : Int32) (M : Mem) : Option (Mem) :=
  if ib a1 4 then
  if ib a1 4 then
  some (wr M 103 (ix a1) ((M 103 (ix a1)) + 1))
  else none
  else none
def fM_acts_b238 (a1 : Int32) (a2 : Int32) (a5 : Int32) (M : Mem) : Option (Mem) :=
  if ib a1 4 then
  (fM_says 0 a1 a2 a5 (wr M 100 (ix a1) a5)).bind fun w6 =>
  (fM_takesOf a1 w6.1 w6.2).bind fun w7 =>
  if ib a1 4 then
  some (wr w7.2 99 (ix a1) w7.1)
  else none
  else none
def fM_acts_b85 (s0 : Int32) (s1 : Int32) (M : Mem) : Option (Mem) :=
  if ib s1 4 then
  some (wr M 98 (ix s1) s0)
  else none
def fM_acts_b35 (a1 : Int32) (a2 : Int32) (a3 : Int32) (a4 : Int32) (s0 : Int32) (M : Mem) : Option (Mem) :=
  if ib a1 4 then
  if (M 99 (ix a1)) ≤ 0 then
    if ib a1 4 then
    if a3 = (M 98 (ix a1)) then
      if ib a1 4 then
      if ib a1 4 then
      (fM_says 2 a1 a2 0 (wr M 102 (ix a1) ((M 102 (ix a1)) + 1))).bind fun w3 =>
      some (wr w3.2 85 43 (((wr M 102 (ix a1) ((M 102 (ix a1)) + 1)) 85 43) + w3.1))
      else none
      else none
    else
      if ib a1 4 then
      if a4 = (M 98 (ix a1)) then
        if ib a4 8 then
        (fM_says 1 a1 a2 0 M).bind fun w4 =>
        (fM_worksOf a1 w4.1 w4.2).bind fun w5 =>
        if 0 ≤ ((M 104 (ix a4)) - w5.1) then
          fM_acts_b180 a1 ((M 104 (ix a4)) - w5.1) ((M 104 (ix a4)) - w5.1) a4 w5.2
        else
          fM_acts_b180 a1 ((M 104 (ix a4)) - w5.1) 0 a4 w5.2
        else none
      else
        if s0 = (-1) then
          fM_acts_b269 a1 M
        else
          if a3 = s0 then
            if ib a1 4 then
            if (M 92 (ix a1)) = 3 then
              if ib a1 4 then
              if ((M 93 (ix a1)) + 2) = 0 then none else
              if (a2 - a2 / ((M 93 (ix a1)) + 2) * ((M 93 (ix a1)) + 2)) = 0 then
                fM_acts_b238 a1 a2 s0 M
              else
                fM_acts_b269 a1 M
              else none
            else
              fM_acts_b269 a1 M
            else none
          else
            fM_acts_b238 a1 a2 s0 M
      else none
    else none
  else
    if ib a1 4 then
    if ib a1 4 then
    if ib a1 4 then
    if ((wr M 99 (ix a1) ((M 99 (ix a1)) - 1)) 99 (ix a1)) = 0 then
      if ib a1 4 then
      fM_acts_b85 ((wr M 99 (ix a1) ((M 99 (ix a1)) - 1)) 100 (ix a1)) a1 (wr M 99 (ix a1) ((M 99 (ix a1)) - 1))
      else none
    else
      if ib a1 4 then
      fM_acts_b85 ((wr M 99 (ix a1) ((M 99 (ix a1)) - 1)) 98 (ix a1)) a1 (wr M 99 (ix a1) ((M 99 (ix a1)) - 1))
      else none
    else none
    else none
    else none
  else none
def fM_acts (a1 : Int32) (a2 : Int32) (M : Mem) : Option (Mem) :=
  (fM_masterIn a2 M).bind fun w1 =>
  (fM_aimOf a1 w1.2).bind fun w2 =>
  if w2.1 = (-1) then
    fM_acts_b35 a1 a2 w1.1 w2.1 (-1) w2.2
  else
    if ib a1 4 then
    (fM_nextTo (w2.2 98 (ix a1)) w2.1 w2.2).bind fun w8 =>
    fM_acts_b35 a1 a2 w1.1 w2.1 w8.1 w8.2
    else none
def fM_isReady_b56 (k2 : Int32 → Mem → Option (Int32 × Mem)) (a1 : Int32) (M : Mem) : Option (Int32 × Mem) :=
  k2 (a1 + 1) M
def fM_isReady_b12 (k2 : Int32 → Mem → Option (Int32 × Mem)) (a1 : Int32) : Nat → Int32 → Mem → Option (Int32 × Mem)
  | 0, _, _ => none
  | z + 1, a2, M =>
    if ib a1 4 then
    if (M 96 (ix a1)) ≤ a2 then
      fM_isReady_b56 k2 a1 M
    else
      if a1 = (M 85 18) then
        fM_isReady_b56 k2 a1 M
      else
        if ib ((5 * a1) + a2) 20 then
        if ib (M 95 (ix ((5 * a1) + a2))) 8 then
        if (M 104 (ix (M 95 (ix ((5 * a1) + a2))))) ≤ 0 then
          fM_isReady_b12 k2 a1 z (a2 + 1) M
        else
          some (0, M)
        else none
        else none
    else none
def fM_isReady_b2 : Nat → Int32 → Mem → Option (Int32 × Mem)
  | 0, _, _ => none
  | z + 1, a1, M =>
    if (M 85 17) ≤ a1 then
      some (1, M)
    else
      fM_isReady_b12 (fM_isReady_b2 z) a1 1000 0 M
def fM_isReady (M : Mem) : Option (Int32 × Mem) :=
  fM_isReady_b2 1000 0 M
def fM_lives_b54 (s0 : Int32) (M : Mem) : Option (Mem) :=
  some (wr M 85 44 s0)
def fM_lives_b50 (M : Mem) : Option (Mem) :=
  fM_lives_b54 (M 85 44) M
def fM_lives_b24 (k2 : Int32 → Mem → Option (Mem)) (a1 : Int32) (a2 : Int32) (M : Mem) : Option (Mem) :=
  k2 (a2 + 1) M
def fM_lives_b2 (a1 : Int32) : Nat → Int32 → Mem → Option (Mem)
  | 0, _, _ => none
  | z + 1, a2, M =>
    if (M 85 17) ≤ a2 then
      if (M 85 44) = (-1) then
        (fM_isReady M).bind fun w1 =>
        if w1.1 = 0 then
          fM_lives_b50 w1.2
        else
          fM_lives_b54 a1 w1.2
      else
        fM_lives_b50 M
    else
      if a2 = (M 85 18) then
        fM_lives_b24 (fM_lives_b2 a1 z) a1 a2 M
      else
        (fM_acts a2 a1 M).bind fun M2 =>
        fM_lives_b24 (fM_lives_b2 a1 z) a1 a2 M2
def fM_lives (a1 : Int32) (M : Mem) : Option (Mem) :=
  fM_lives_b2 a1 1000 0 M
def fM_livesAll_b6 (a1 : Int32) : Nat → Int32 → Mem → Option (Mem)
  | 0, _, _ => none
  | z + 1, a2, M =>
    if a1 ≤ a2 then
      some M
    else
      (fM_lives a2 M).bind fun M2 =>
      fM_livesAll_b6 a1 z (a2 + 1) M2
def fM_livesAll (a1 : Int32) (M : Mem) : Option (Mem) :=
  (fM_startsOff M).bind fun M1 =>
  fM_livesAll_b6 a1 1000 0 M1
def fM_leftAll_b4 : Nat → Int32 → Int32 → Mem → Option (Int32 × Mem)
  | 0, _, _, _ => none
  | z + 1, a1, a2, M =>
    if 8 ≤ a2 then
      some (a1, M)
    else
      if ib a2 8 then
      fM_leftAll_b4 z (a1 + (M 104 (ix a2))) (a2 + 1) M
      else none
def fM_leftAll (M : Mem) : Option (Int32 × Mem) :=
  fM_leftAll_b4 1000 0 0 M
def fM_dear (M : Mem) : Option (Int32 × Mem) :=
  (fM_livesAll 100 M).bind fun M1 =>
  (fM_leftAll M1).bind fun w2 =>
  some ((w2.1 + (w2.2 85 43)), w2.2)
def fM_morning_b66 (a1 : Int32) (a2 : Int32) (M : Mem) : Option (Int32 × Mem) :=
  (fM_livesAll a1 M).bind fun M5 =>
  if 4 ≤ a2 then
    if a2 ≤ 49 then
      if 20 ≤ a2 then
        if 30 ≤ a2 then
          if 40 ≤ a2 then
            (fM_aimOf (a2 - a2 / 10 * 10) M5).bind fun w6 =>
            some (w6.1, w6.2)
          else
            if ib (a2 - a2 / 10 * 10) 4 then
            some ((M5 103 (ix (a2 - a2 / 10 * 10))), M5)
            else none
        else
          if ib (a2 - a2 / 10 * 10) 4 then
          some ((M5 102 (ix (a2 - a2 / 10 * 10))), M5)
          else none
      else
        if ib (a2 - a2 / 10 * 10) 4 then
        some ((M5 98 (ix (a2 - a2 / 10 * 10))), M5)
        else none
    else
      if ib (a2 - 50) 8 then
      some ((M5 104 (ix (a2 - 50))), M5)
      else none
  else
    if a2 = 0 then
      (fM_leftAll M5).bind fun w7 =>
      some (w7.1, w7.2)
    else
      if a2 = 1 then
        some ((M5 85 43), M5)
      else
        if a2 = 2 then
          some ((M5 85 44), M5)
        else
          (fM_leftAll M5).bind fun w8 =>
          some ((w8.1 + (w8.2 85 43)), w8.2)
def fM_morning_b49 (a1 : Int32) (a2 : Int32) (M : Mem) : Option (Int32 × Mem) :=
  (fM_in (a2.toInt64) (50 : Int64) (57 : Int64) M).bind fun w4 =>
  if w4.1 = 0 then
    some ((-2), w4.2)
  else
    fM_morning_b66 a1 a2 w4.2
def fM_morning (a1 : Int32) (a2 : Int32) (M : Mem) : Option (Int32 × Mem) :=
  (fM_in (a1.toInt64) (0 : Int64) (100 : Int64) M).bind fun w1 =>
  if w1.1 = 0 then
    some ((-2), w1.2)
  else
    (fM_in (a2.toInt64) (0 : Int64) (3 : Int64) w1.2).bind fun w2 =>
    if w2.1 = 0 then
      (fM_in (a2.toInt64) (10 : Int64) (49 : Int64) w2.2).bind fun w3 =>
      if w3.1 = 0 then
        fM_morning_b49 a1 a2 w3.2
      else
        (fM_isMaid (a2 - a2 / 10 * 10) w3.2).bind fun w9 =>
        if w9.1 = 0 then
          fM_morning_b49 a1 a2 w9.2
        else
          fM_morning_b66 a1 a2 w9.2
    else
      fM_morning_b66 a1 a2 w2.2
def fM_orders_b51 (rc : Int32 → Int32 → Int32 → Mem → Option Mem) (a1 : Int32) (a4 : Int32) : Nat → Int32 → Mem → Option (Mem)
  | 0, _, _ => none
  | z + 1, a6, M =>
    if a4 ≤ a6 then
      some M
    else
      if ib ((5 * a1) + a6) 20 then
      fM_orders_b51 rc a1 a4 z (a6 + 1) (wr M 85 47 (((10 * (M 85 47)) + (M 95 (ix ((5 * a1) + a6)))) + 1))
      else none
def fM_orders_b37 (rc : Int32 → Int32 → Int32 → Mem → Option Mem) (a1 : Int32) (a4 : Int32) (a5 : Int32) (M : Mem) : Option (Mem) :=
  fM_orders_b51 rc a1 a4 1000 0 (wr (wr M 85 46 a5) 85 47 0)
def fM_orders_b140 (rc : Int32 → Int32 → Int32 → Mem → Option Mem) (k93 : Int32 → Mem → Option (Mem)) (a1 : Int32) (a2 : Int32) (a3 : Int32) (a4 : Int32) (a5 : Int32) (M : Mem) : Option (Mem) :=
  k93 (a5 + 1) M
def fM_orders_b93 (rc : Int32 → Int32 → Int32 → Mem → Option Mem) (a1 : Int32) (a2 : Int32) (a3 : Int32) (a4 : Int32) : Nat → Int32 → Mem → Option (Mem)
  | 0, _, _ => none
  | z + 1, a5, M =>
    if a4 ≤ a5 then
      some M
    else
      if ((a3 >>> (a5 &&& 31)) &&& 1) = 0 then
        if ib a5 5 then
        if ib ((5 * a1) + a2) 20 then
        (rc a1 (a2 + 1) (a3 ||| (1 <<< (a5 &&& 31))) (wr M 95 (ix ((5 * a1) + a2)) (M 105 (ix a5)))).bind fun M2 =>
        fM_orders_b140 rc (fM_orders_b93 rc a1 a2 a3 a4 z) a1 a2 a3 a4 a5 M2
        else none
        else none
      else
        fM_orders_b140 rc (fM_orders_b93 rc a1 a2 a3 a4 z) a1 a2 a3 a4 a5 M
def fM_orders (rc : Int32 → Int32 → Int32 → Mem → Option Mem) (a1 : Int32) (a2 : Int32) (a3 : Int32) (M : Mem) : Option (Mem) :=
  if ib a1 4 then
  if a2 = (M 96 (ix a1)) then
    (fM_dear M).bind fun w1 =>
    if (w1.2 85 47) = (-1) then
      fM_orders_b37 rc a1 (M 96 (ix a1)) w1.1 w1.2
    else
      if (w1.2 85 46) ≤ w1.1 then
        some w1.2
      else
        fM_orders_b37 rc a1 (M 96 (ix a1)) w1.1 w1.2
  else
    fM_orders_b93 rc a1 a2 a3 (M 96 (ix a1)) 1000 0 M
  else none
def f_rO : Nat → Int32 → Int32 → Int32 → Mem → Option Mem
  | 0, _, _, _, _ => none
  | d + 1, a, b, c, M => fM_orders (f_rO d) a b c M
def fM_best_b64 (a1 : Int32) (a2 : Int32) : Nat → Int32 → Mem → Option (Int32 × Mem)
  | 0, _, _ => none
  | z + 1, a3, M =>
    if 5 ≤ a3 then
      if a2 = 0 then
        some ((M 85 47), M)
      else
        some ((M 85 46), M)
    else
      if ib a3 5 then
      if ib ((5 * a1) + a3) 20 then
      fM_best_b64 a1 a2 z (a3 + 1) (wr M 95 (ix ((5 * a1) + a3)) (M 105 (ix a3)))
      else none
      else none
def fM_best_b23 (a1 : Int32) (a2 : Int32) : Nat → Int32 → Mem → Option (Int32 × Mem)
  | 0, _, _ => none
  | z + 1, a3, M =>
    if 5 ≤ a3 then
      (f_rO 60 a1 0 0 (wr M 85 47 (-1))).bind fun M3 =>
      fM_best_b64 a1 a2 1000 0 M3
    else
      if ib ((5 * a1) + a3) 20 then
      if ib a3 5 then
      fM_best_b23 a1 a2 z (a3 + 1) (wr M 105 (ix a3) (M 95 (ix ((5 * a1) + a3))))
      else none
      else none
def fM_best (a1 : Int32) (a2 : Int32) (M : Mem) : Option (Int32 × Mem) :=
  (fM_isMaid a1 M).bind fun w1 =>
  if w1.1 = 0 then
    some ((-2), w1.2)
  else
    (fM_in (a2.toInt64) (0 : Int64) (1 : Int64) w1.2).bind fun w2 =>
    if w2.1 = 0 then
      some ((-2), w2.2)
    else
      fM_best_b23 a1 a2 1000 0 w2.2
def fM_begin_b79 (k37 : Int32 → Int32 → Int32 → Mem → Option (Int32 × Mem)) (a1 : Int32) (a2 : Int32) (a3 : Int32) (a4 : Int32) (a5 : Int32) (a6 : Int32) (M : Mem) : Option (Int32 × Mem) :=
  k37 a4 a5 (a6 + 1) M
def fM_begin_b71 (k37 : Int32 → Int32 → Int32 → Mem → Option (Int32 × Mem)) (a1 : Int32) (a2 : Int32) (a3 : Int32) (a6 : Int32) (a7 : Int32) (M : Mem) : Option (Int32 × Mem) :=
  fM_begin_b79 k37 a1 a2 a3 a6 a7 a6 M
def fM_begin_b37 (a1 : Int32) (a2 : Int32) (a3 : Int32) : Nat → Int32 → Int32 → Int32 → Mem → Option (Int32 × Mem)
  | 0, _, _, _, _ => none
  | z + 1, a4, a5, a6, M =>
    if 8 ≤ a6 then
      if ib a1 4 then
      if a2 = 0 then
        some (a4, (wr M 94 (ix a1) a3))
      else
        some (a5, (wr M 94 (ix a1) a3))
      else none
    else
      if ib a1 4 then
      (fM_dear (wr M 94 (ix a1) a6)).bind fun w3 =>
      if a4 = (-1) then
        fM_begin_b71 (fM_begin_b37 a1 a2 a3 z) a1 a2 a3 a6 w3.1 w3.2
      else
        if a5 ≤ w3.1 then
          fM_begin_b79 (fM_begin_b37 a1 a2 a3 z) a1 a2 a3 a4 a5 a6 w3.2
        else
          fM_begin_b71 (fM_begin_b37 a1 a2 a3 z) a1 a2 a3 a6 w3.1 w3.2
      else none
def fM_begin (a1 : Int32) (a2 : Int32) (M : Mem) : Option (Int32 × Mem) :=
  (fM_isMaid a1 M).bind fun w1 =>
  if w1.1 = 0 then
    some ((-2), w1.2)
  else
    (fM_in (a2.toInt64) (0 : Int64) (1 : Int64) w1.2).bind fun w2 =>
    if w2.1 = 0 then
      some ((-2), w2.2)
    else
      if ib a1 4 then
      fM_begin_b37 a1 a2 (w2.2 94 (ix a1)) 1000 (-1) 0 0 w2.2
      else none
def fM_home_b61 (k23 : Int32 → Int32 → Int32 → Mem → Option (Int32 × Mem)) (a1 : Int32) (a2 : Int32) (a3 : Int32) (a4 : Int32) (M : Mem) : Option (Int32 × Mem) :=
  k23 a2 a3 (a4 + 1) M
def fM_home_b23 (a1 : Int32) : Nat → Int32 → Int32 → Int32 → Mem → Option (Int32 × Mem)
  | 0, _, _, _, _ => none
  | z + 1, a2, a3, a4, M =>
    if (M 85 17) ≤ a4 then
      if a1 = 0 then
        some (a2, M)
      else
        some (a3, M)
    else
      (fM_dear (wr M 85 18 a4)).bind fun w3 =>
      if a3 ≤ w3.1 then
        fM_home_b61 (fM_home_b23 a1 z) a1 a2 a3 a4 (wr w3.2 85 18 (-1))
      else
        fM_home_b61 (fM_home_b23 a1 z) a1 a4 w3.1 a4 (wr w3.2 85 18 (-1))
def fM_home (a1 : Int32) (M : Mem) : Option (Int32 × Mem) :=
  (fM_in (a1.toInt64) (0 : Int64) (1 : Int64) M).bind fun w1 =>
  if w1.1 = 0 then
    some ((-2), w1.2)
  else
    (fM_dear w1.2).bind fun w2 =>
    fM_home_b23 a1 1000 (-1) w2.1 0 w2.2
def fM_stairs (M : Mem) : Option (Int32 × Mem) :=
  (fM_dear (wr M 85 7 0)).bind fun w1 =>
  (fM_dear (wr w1.2 85 7 3)).bind fun w2 =>
  some ((w1.1 - w2.1), (wr w2.2 85 7 (M 85 7)))
def fM_isSheet (a0 : Int32) (M : Mem) : Option (Int32 × Mem) :=
  (fM_in (a0.toInt64) (0 : Int64) (3 : Int64) M).bind fun w1 =>
  if w1.1 = 0 ∨ w1.1 = 1 then some (w1.1, w1.2) else none
def fM_from_b129 (k40 : Int32 → Int32 → Int32 → Mem → Option (Int32 × Mem)) (a1 : Int32) (a2 : Int32) (a3 : Int32) (a4 : Int32) (a5 : Int32) (M : Mem) : Option (Int32 × Mem) :=
  k40 a3 a4 (a5 + 1) M
def fM_from_b127 (k40 : Int32 → Int32 → Int32 → Mem → Option (Int32 × Mem)) (a1 : Int32) (a2 : Int32) (a3 : Int32) (a5 : Int32) (s0 : Int32) (M : Mem) : Option (Int32 × Mem) :=
  fM_from_b129 k40 a1 a2 a3 s0 a5 M
def fM_from_b98 (k40 : Int32 → Int32 → Int32 → Mem → Option (Int32 × Mem)) (k53 : Int32 → Int32 → Mem → Option (Int32 × Mem)) (a1 : Int32) (a2 : Int32) (a3 : Int32) (a4 : Int32) (a5 : Int32) (a7 : Int32) (s0 : Int32) (M : Mem) : Option (Int32 × Mem) :=
  k53 s0 (a7 + 1) M
def fM_from_b97 (k40 : Int32 → Int32 → Int32 → Mem → Option (Int32 × Mem)) (k53 : Int32 → Int32 → Mem → Option (Int32 × Mem)) (a1 : Int32) (a2 : Int32) (a3 : Int32) (a4 : Int32) (a5 : Int32) (a7 : Int32) (M : Mem) : Option (Int32 × Mem) :=
  fM_from_b98 k40 k53 a1 a2 a3 a4 a5 a7 0 M
def fM_from_b53 (k40 : Int32 → Int32 → Int32 → Mem → Option (Int32 × Mem)) (a1 : Int32) (a2 : Int32) (a3 : Int32) (a4 : Int32) (a5 : Int32) : Nat → Int32 → Int32 → Mem → Option (Int32 × Mem)
  | 0, _, _, _ => none
  | z + 1, a6, a7, M =>
    if ib a1 4 then
    if (M 111 (ix a1)) ≤ a7 then
      if a6 = 0 then
        fM_from_b129 k40 a1 a2 a3 a4 a5 M
      else
        if a4 = (-1) then
          fM_from_b127 k40 a1 a2 (a3 + 1) a5 a5 M
        else
          fM_from_b127 k40 a1 a2 (a3 + 1) a5 a4 M
    else
      if a6 = 0 then
        fM_from_b97 k40 (fM_from_b53 k40 a1 a2 a3 a4 a5 z) a1 a2 a3 a4 a5 a7 M
      else
        (fM_masterIn (a7 + a5) M).bind fun w3 =>
        if ib ((40 * a1) + a7) 160 then
        if w3.1 = (w3.2 112 (ix ((40 * a1) + a7))) then
          fM_from_b98 k40 (fM_from_b53 k40 a1 a2 a3 a4 a5 z) a1 a2 a3 a4 a5 a7 1 w3.2
        else
          fM_from_b97 k40 (fM_from_b53 k40 a1 a2 a3 a4 a5 z) a1 a2 a3 a4 a5 a7 w3.2
        else none
    else none
def fM_from_b40 (a1 : Int32) (a2 : Int32) : Nat → Int32 → Int32 → Int32 → Mem → Option (Int32 × Mem)
  | 0, _, _, _, _ => none
  | z + 1, a3, a4, a5, M =>
    if 100 ≤ a5 then
      if a2 = 0 then
        some (a3, M)
      else
        some (a4, M)
    else
      fM_from_b53 (fM_from_b40 a1 a2 z) a1 a2 a3 a4 a5 1000 1 0 M
def fM_from (a1 : Int32) (a2 : Int32) (M : Mem) : Option (Int32 × Mem) :=
  (fM_isSheet a1 M).bind fun w1 =>
  if w1.1 = 0 then
    some ((-2), w1.2)
  else
    (fM_in (a2.toInt64) (0 : Int64) (1 : Int64) w1.2).bind fun w2 =>
    if w2.1 = 0 then
      some ((-2), w2.2)
    else
      if ib a1 4 then
      if (w2.2 109 (ix a1)) = 0 then
        some ((-11), w2.2)
      else
        fM_from_b40 a1 a2 1000 0 (-1) 0 w2.2
      else none
def fM_isSo_b6 (a1 : Int32) (a2 : Int32) : Nat → Int32 → Mem → Option (Int32 × Mem)
  | 0, _, _ => none
  | z + 1, a3, M =>
    if ib a1 4 then
    if (M 111 (ix a1)) ≤ a3 then
      some (1, M)
    else
      (fM_lives a3 M).bind fun M2 =>
      if ib a2 4 then
      if ib ((40 * a1) + a3) 160 then
      if (M2 98 (ix a2)) = (M2 112 (ix ((40 * a1) + a3))) then
        fM_isSo_b6 a1 a2 z (a3 + 1) M2
      else
        some (0, M2)
      else none
      else none
    else none
def fM_isSo (a1 : Int32) (a2 : Int32) (M : Mem) : Option (Int32 × Mem) :=
  (fM_startsOff M).bind fun M1 =>
  fM_isSo_b6 a1 a2 1000 0 M1
def fM_tries_b39 (a2 : Int32) (a3 : Int32) (s0 : Int32) (M : Mem) : Option (Mem) :=
  (fM_lays s0 a2 a3 M).bind fun M1 =>
  some M1
def fM_tries (a1 : Int32) (a2 : Int32) (a3 : Int32) (M : Mem) : Option (Mem) :=
  if a1 = 1 then
    if ib a2 4 then
    some (wr M 92 (ix a2) a3)
    else none
  else
    if a1 = 4 then
      some (wr M 85 4 a3)
    else
      if a1 = 2 then
        fM_tries_b39 a2 a3 4 M
      else
        fM_tries_b39 a2 a3 5 M
def fM_door_b182 (k151 : Int32 → Int32 → Mem → Option (Int32 × Mem)) (a1 : Int32) (a2 : Int32) (a3 : Int32) (a4 : Int32) (a5 : Int32) (a7 : Int32) (s0 : Int32) (s1 : Int32) (M : Mem) : Option (Int32 × Mem) :=
  k151 (s1 ||| (s0 <<< (a7 &&& 31))) (a7 + 1) M
def fM_door_b151 (a1 : Int32) (a2 : Int32) (a3 : Int32) (a4 : Int32) (a5 : Int32) : Nat → Int32 → Int32 → Mem → Option (Int32 × Mem)
  | 0, _, _, _ => none
  | z + 1, a6, a7, M =>
    if a5 ≤ a7 then
      (fM_tries a3 a2 a4 M).bind fun M5 =>
      some (a6, M5)
    else
      (fM_tries a3 a2 a7 M).bind fun M6 =>
      (fM_isSo a1 a2 M6).bind fun w7 =>
      if w7.1 = 0 then
        fM_door_b182 (fM_door_b151 a1 a2 a3 a4 a5 z) a1 a2 a3 a4 a5 a7 0 a6 w7.2
      else
        fM_door_b182 (fM_door_b151 a1 a2 a3 a4 a5 z) a1 a2 a3 a4 a5 a7 1 a6 w7.2
def fM_door_b143 (a1 : Int32) (a2 : Int32) (a3 : Int32) (a4 : Int32) (s0 : Int32) (M : Mem) : Option (Int32 × Mem) :=
  fM_door_b151 a1 a2 a3 a4 s0 1000 0 0 M
def fM_door_b107 (a1 : Int32) (a2 : Int32) (a3 : Int32) (s0 : Int32) (M : Mem) : Option (Int32 × Mem) :=
  if a3 = 1 then
    fM_door_b143 a1 a2 a3 s0 6 M
  else
    if a3 = 2 then
      fM_door_b143 a1 a2 a3 s0 10 M
    else
      if a3 = 3 then
        fM_door_b143 a1 a2 a3 s0 8 M
      else
        fM_door_b143 a1 a2 a3 s0 (M 85 3) M
def fM_door (a1 : Int32) (a2 : Int32) (a3 : Int32) (M : Mem) : Option (Int32 × Mem) :=
  (fM_isSheet a1 M).bind fun w1 =>
  if w1.1 = 0 then
    some ((-2), w1.2)
  else
    (fM_isMaid a2 w1.2).bind fun w2 =>
    if w2.1 = 0 then
      some ((-2), w2.2)
    else
      (fM_in (a3.toInt64) (0 : Int64) (4 : Int64) w2.2).bind fun w3 =>
      if w3.1 = 0 then
        some ((-2), w3.2)
      else
        if ib a1 4 then
        if (w3.2 109 (ix a1)) = 0 then
          some ((-11), w3.2)
        else
          if a3 = 0 then
            (fM_isSo a1 a2 w3.2).bind fun w4 =>
            if w4.1 = 0 then
              some (0, w4.2)
            else
              some (1, w4.2)
          else
            if a3 = 1 then
              if ib a2 4 then
              fM_door_b107 a1 a2 a3 (w3.2 92 (ix a2)) w3.2
              else none
            else
              if a3 = 2 then
                if ib a2 4 then
                fM_door_b107 a1 a2 a3 (w3.2 93 (ix a2)) w3.2
                else none
              else
                if a3 = 3 then
                  if ib a2 4 then
                  fM_door_b107 a1 a2 a3 (w3.2 94 (ix a2)) w3.2
                  else none
                else
                  fM_door_b107 a1 a2 a3 (w3.2 85 4) w3.2
        else none
def fM_sheet_b77 (a1 : Int32) (a2 : Int32) (a3 : Int32) : Nat → Int32 → Mem → Option (Int32 × Mem)
  | 0, _, _ => none
  | z + 1, a4, M =>
    if a3 ≤ a4 then
      some (1, M)
    else
      if a2 < 0 then
        some (1, M)
      else
        if ib ((40 * a1) + a4) 160 then
        fM_sheet_b77 a1 a2 a3 z (a4 + 1) (wr M 112 (ix ((40 * a1) + a4)) 0)
        else none
def fM_sheet_b59 (a1 : Int32) (a2 : Int32) (a3 : Int32) (s0 : Int32) (s1 : Int32) (M : Mem) : Option (Int32 × Mem) :=
  if ib s1 4 then
  if ib a1 4 then
  if ib a1 4 then
  fM_sheet_b77 a1 a2 a3 1000 0 (wr (wr (wr M 109 (ix s1) (vp_nar .boolean s0)) 110 (ix a1) a2) 111 (ix a1) a3)
  else none
  else none
  else none
def fM_sheet_b45 (a1 : Int32) (a2 : Int32) (a3 : Int32) (M : Mem) : Option (Int32 × Mem) :=
  if a2 < 0 then
    fM_sheet_b59 a1 a2 a3 0 a1 M
  else
    fM_sheet_b59 a1 a2 a3 1 a1 M
def fM_sheet_b34 (a1 : Int32) (a2 : Int32) (a3 : Int32) (M : Mem) : Option (Int32 × Mem) :=
  if a2 < 0 then
    fM_sheet_b45 a1 a2 a3 M
  else
    if 0 ≤ a3 then
      fM_sheet_b45 a1 a2 a3 M
    else
      some ((-14), M)
def fM_sheet (a1 : Int32) (a2 : Int32) (a3 : Int32) (M : Mem) : Option (Int32 × Mem) :=
  (fM_isSheet a1 M).bind fun w1 =>
  if w1.1 = 0 then
    some ((-2), w1.2)
  else
    (fM_in (a2.toInt64) (-1 : Int64) (2 : Int64) w1.2).bind fun w2 =>
    if w2.1 = 0 then
      some ((-2), w2.2)
    else
      if a2 < 0 then
        fM_sheet_b34 a1 a2 a3 w2.2
      else
        if a3 ≤ 40 then
          fM_sheet_b34 a1 a2 a3 w2.2
        else
          some ((-2), w2.2)
def fM_film_b93 (k50 : Int32 → Mem → Option (Int32 × Mem)) (a1 : Int32) (a2 : Int32) (a3 : Int32) (a4 : Int32) (s0 : Int32) (s1 : Int32) (M : Mem) : Option (Int32 × Mem) :=
  if ib s1 160 then
  k50 (a4 + 1) (wr M 112 (ix s1) s0)
  else none
def fM_film_b50 (a1 : Int32) (a2 : Int32) (a3 : Int32) : Nat → Int32 → Mem → Option (Int32 × Mem)
  | 0, _, _ => none
  | z + 1, a4, M =>
    if a3 ≤ a4 then
      some (a3, M)
    else
      (fM_lives a4 M).bind fun M5 =>
      if a2 = (-1) then
        (fM_masterIn a4 M5).bind fun w6 =>
        fM_film_b93 (fM_film_b50 a1 a2 a3 z) a1 a2 a3 a4 w6.1 ((40 * a1) + a4) w6.2
      else
        if ib a2 4 then
        fM_film_b93 (fM_film_b50 a1 a2 a3 z) a1 a2 a3 a4 (M5 98 (ix a2)) ((40 * a1) + a4) M5
        else none
def fM_film_b20 (a1 : Int32) (a2 : Int32) (a3 : Int32) (M : Mem) : Option (Int32 × Mem) :=
  (fM_in (a3.toInt64) (0 : Int64) (40 : Int64) M).bind fun w2 =>
  if w2.1 = 0 then
    some ((-2), w2.2)
  else
    (fM_sheet a1 0 a3 w2.2).bind fun w3 =>
    (fM_startsOff w3.2).bind fun M4 =>
    fM_film_b50 a1 a2 a3 1000 0 M4
def fM_film (a1 : Int32) (a2 : Int32) (a3 : Int32) (M : Mem) : Option (Int32 × Mem) :=
  (fM_isSheet a1 M).bind fun w1 =>
  if w1.1 = 0 then
    some ((-2), w1.2)
  else
    if a2 = (-1) then
      fM_film_b20 a1 a2 a3 w1.2
    else
      (fM_isMaid a2 w1.2).bind fun w7 =>
      if w7.1 = 0 then
        some ((-2), w7.2)
      else
        fM_film_b20 a1 a2 a3 w7.2
def fM_draws_b63 (a3 : Int32) : Nat → Int32 → Mem → Option (Int32 × Mem)
  | 0, _, _ => none
  | z + 1, a4, M =>
    if (M 85 11) ≤ a4 then
      some (a3, M)
    else
      if ib a4 8 then
      if ib a4 8 then
      fM_draws_b63 a3 z (a4 + 1) (wr M 91 (ix a4) (M 106 (ix a4)))
      else none
      else none
def fM_draws_b4 : Nat → Int32 → Int32 → Mem → Option (Int32 × Mem)
  | 0, _, _, _ => none
  | z + 1, a2, a3, M =>
    if (M 85 11) ≤ a3 then
      (fM_dear M).bind fun w1 =>
      fM_draws_b63 w1.1 1000 0 w1.2
    else
      if ib a3 8 then
      if ib a3 8 then
      if ib a3 8 then
      fM_draws_b4 z ((a2 * 1103515245) + 12345) (a3 + 1) (wr (wr M 106 (ix a3) (M 91 (ix a3))) 91 (ix a3) ((((((a2 * 1103515245) + 12345).toUInt32 >>> ((9 : Int32).toUInt32 &&& Int32.toUInt32 31)).toInt32) - ((((a2 * 1103515245) + 12345).toUInt32 >>> ((9 : Int32).toUInt32 &&& Int32.toUInt32 31)).toInt32) / 50 * 50) + 1))
      else none
      else none
      else none
def fM_draws (a1 : Int32) (M : Mem) : Option (Int32 × Mem) :=
  fM_draws_b4 1000 a1 0 M
def fM_drawn (a1 : Int32) (M : Mem) : Option (Int32 × Mem) :=
  (fM_draws a1 M).bind fun w1 =>
  some (w1.1, w1.2)
def fM_chance_b22 (M : Mem) : Option (Int64 × Mem) :=
  some ((-4611686018427387904 : Int64), M)
def fM_chance_b101 (a2 : Int32) (a3 : Int32) (a4 : Int64) : Nat → Int64 → Int64 → Mem → Option (Int64 × Mem)
  | 0, _, _, _ => none
  | z + 1, a6, a8, M =>
    if (lg_cmp a8 (0 : Int64)) = 0 then
      if a3 = 0 then
        if a6 = 0 then none else
        some ((a4 / a6), M)
      else
        if a6 = 0 then none else
        some (((a2.toInt64) / a6), M)
    else
      if a8 = 0 then none else
      fM_chance_b101 a2 a3 a4 z a8 (a6 - a6 / a8 * a8) M
def fM_chance_b84 (k32 : Int64 → Int32 → Mem → Option (Int64 × Mem)) (a1 : Int32) (a2 : Int32) (a3 : Int32) (a6 : Int32) (s0 : Int64) (s1 : Int64) (M : Mem) : Option (Int64 × Mem) :=
  k32 (s1 + s0) (a6 + 1) M
def fM_chance_b32 (a1 : Int32) (a2 : Int32) (a3 : Int32) : Nat → Int64 → Int32 → Mem → Option (Int64 × Mem)
  | 0, _, _, _ => none
  | z + 1, a4, a6, M =>
    if a2 ≤ a6 then
      fM_chance_b101 a2 a3 a4 1000 a4 (a2.toInt64) M
    else
      (fM_draws (a1 + a6) M).bind fun w3 =>
      if ib 0 4 then
      if ib 1 4 then
      if ib 2 4 then
      if ib 3 4 then
      if ((((w3.2 102 (ix 0)) + (w3.2 102 (ix 1))) + (w3.2 102 (ix 2))) + (w3.2 102 (ix 3))) = 0 then
        fM_chance_b84 (fM_chance_b32 a1 a2 a3 z) a1 a2 a3 a6 (1 : Int64) a4 w3.2
      else
        fM_chance_b84 (fM_chance_b32 a1 a2 a3 z) a1 a2 a3 a6 (0 : Int64) a4 w3.2
      else none
      else none
      else none
      else none
def fM_chance (a1 : Int32) (a2 : Int32) (a3 : Int32) (M : Mem) : Option (Int64 × Mem) :=
  (fM_in (a2.toInt64) (1 : Int64) (20 : Int64) M).bind fun w1 =>
  if w1.1 = 0 then
    fM_chance_b22 w1.2
  else
    (fM_in (a3.toInt64) (0 : Int64) (1 : Int64) w1.2).bind fun w2 =>
    if w2.1 = 0 then
      fM_chance_b22 w2.2
    else
      fM_chance_b32 a1 a2 a3 1000 (0 : Int64) 0 w2.2
def fM_image_b112 : Nat → Int32 → Mem → Option (Int32 × Mem)
  | 0, _, _ => none
  | z + 1, a1, M =>
    if 20 ≤ a1 then
      some (((wr (wr (wr (wr M 85 51 (M 85 17)) 85 52 ((wr M 85 51 (M 85 17)) 85 7)) 85 53 ((wr (wr M 85 51 (M 85 17)) 85 52 ((wr M 85 51 (M 85 17)) 85 7)) 85 11)) 85 54 ((wr (wr (wr M 85 51 (M 85 17)) 85 52 ((wr M 85 51 (M 85 17)) 85 7)) 85 53 ((wr (wr M 85 51 (M 85 17)) 85 52 ((wr M 85 51 (M 85 17)) 85 7)) 85 11)) 85 4)) 85 17), (wr (wr (wr (wr M 85 51 (M 85 17)) 85 52 ((wr M 85 51 (M 85 17)) 85 7)) 85 53 ((wr (wr M 85 51 (M 85 17)) 85 52 ((wr M 85 51 (M 85 17)) 85 7)) 85 11)) 85 54 ((wr (wr (wr M 85 51 (M 85 17)) 85 52 ((wr M 85 51 (M 85 17)) 85 7)) 85 53 ((wr (wr M 85 51 (M 85 17)) 85 52 ((wr M 85 51 (M 85 17)) 85 7)) 85 11)) 85 4)))
    else
      if ib a1 20 then
      if ib (12 + a1) 32 then
      fM_image_b112 z (a1 + 1) (wr M 108 (ix (12 + a1)) (M 95 (ix a1)))
      else none
      else none
def fM_image_b58 : Nat → Int32 → Mem → Option (Int32 × Mem)
  | 0, _, _ => none
  | z + 1, a1, M =>
    if 4 ≤ a1 then
      fM_image_b112 1000 0 M
    else
      if ib a1 4 then
      if ib a1 32 then
      if ib a1 4 then
      if ib (4 + a1) 32 then
      if ib a1 4 then
      if ib (8 + a1) 32 then
      fM_image_b58 z (a1 + 1) (wr (wr (wr M 108 (ix a1) (M 93 (ix a1))) 108 (ix (4 + a1)) ((wr M 108 (ix a1) (M 93 (ix a1))) 94 (ix a1))) 108 (ix (8 + a1)) ((wr (wr M 108 (ix a1) (M 93 (ix a1))) 108 (ix (4 + a1)) ((wr M 108 (ix a1) (M 93 (ix a1))) 94 (ix a1))) 96 (ix a1)))
      else none
      else none
      else none
      else none
      else none
      else none
def fM_image_b2 : Nat → Int32 → Mem → Option (Int32 × Mem)
  | 0, _, _ => none
  | z + 1, a1, M =>
    if 8 ≤ a1 then
      fM_image_b58 1000 0 M
    else
      if ib a1 8 then
      if ib a1 24 then
      if ib a1 8 then
      if ib (8 + a1) 24 then
      if ib a1 8 then
      if ib (16 + a1) 24 then
      fM_image_b2 z (a1 + 1) (wr (wr (wr M 107 (ix a1) (M 89 (ix a1))) 107 (ix (8 + a1)) ((wr M 107 (ix a1) (M 89 (ix a1))) 90 (ix a1))) 107 (ix (16 + a1)) ((wr (wr M 107 (ix a1) (M 89 (ix a1))) 107 (ix (8 + a1)) ((wr M 107 (ix a1) (M 89 (ix a1))) 90 (ix a1))) 91 (ix a1)))
      else none
      else none
      else none
      else none
      else none
      else none
def fM_image (M : Mem) : Option (Int32 × Mem) :=
  fM_image_b2 1000 0 M
def fM_back_b123 : Nat → Int32 → Mem → Option (Int32 × Mem)
  | 0, _, _ => none
  | z + 1, a1, M =>
    if 20 ≤ a1 then
      some (((wr (wr (wr (wr M 85 17 (M 85 51)) 85 7 ((wr M 85 17 (M 85 51)) 85 52)) 85 11 ((wr (wr M 85 17 (M 85 51)) 85 7 ((wr M 85 17 (M 85 51)) 85 52)) 85 53)) 85 4 ((wr (wr (wr M 85 17 (M 85 51)) 85 7 ((wr M 85 17 (M 85 51)) 85 52)) 85 11 ((wr (wr M 85 17 (M 85 51)) 85 7 ((wr M 85 17 (M 85 51)) 85 52)) 85 53)) 85 54)) 85 17), (wr (wr (wr (wr M 85 17 (M 85 51)) 85 7 ((wr M 85 17 (M 85 51)) 85 52)) 85 11 ((wr (wr M 85 17 (M 85 51)) 85 7 ((wr M 85 17 (M 85 51)) 85 52)) 85 53)) 85 4 ((wr (wr (wr M 85 17 (M 85 51)) 85 7 ((wr M 85 17 (M 85 51)) 85 52)) 85 11 ((wr (wr M 85 17 (M 85 51)) 85 7 ((wr M 85 17 (M 85 51)) 85 52)) 85 53)) 85 54)))
    else
      if ib (12 + a1) 32 then
      if ib a1 20 then
      fM_back_b123 z (a1 + 1) (wr M 95 (ix a1) (M 108 (ix (12 + a1))))
      else none
      else none
def fM_back_b69 : Nat → Int32 → Mem → Option (Int32 × Mem)
  | 0, _, _ => none
  | z + 1, a1, M =>
    if 4 ≤ a1 then
      fM_back_b123 1000 0 M
    else
      if ib a1 32 then
      if ib a1 4 then
      if ib (4 + a1) 32 then
      if ib a1 4 then
      if ib (8 + a1) 32 then
      if ib a1 4 then
      fM_back_b69 z (a1 + 1) (wr (wr (wr M 93 (ix a1) (M 108 (ix a1))) 94 (ix a1) ((wr M 93 (ix a1) (M 108 (ix a1))) 108 (ix (4 + a1)))) 96 (ix a1) ((wr (wr M 93 (ix a1) (M 108 (ix a1))) 94 (ix a1) ((wr M 93 (ix a1) (M 108 (ix a1))) 108 (ix (4 + a1)))) 108 (ix (8 + a1))))
      else none
      else none
      else none
      else none
      else none
      else none
def fM_back_b13 : Nat → Int32 → Mem → Option (Int32 × Mem)
  | 0, _, _ => none
  | z + 1, a1, M =>
    if 8 ≤ a1 then
      fM_back_b69 1000 0 M
    else
      if ib a1 24 then
      if ib a1 8 then
      if ib (8 + a1) 24 then
      if ib a1 8 then
      if ib (16 + a1) 24 then
      if ib a1 8 then
      fM_back_b13 z (a1 + 1) (wr (wr (wr M 89 (ix a1) (M 107 (ix a1))) 90 (ix a1) ((wr M 89 (ix a1) (M 107 (ix a1))) 107 (ix (8 + a1)))) 91 (ix a1) ((wr (wr M 89 (ix a1) (M 107 (ix a1))) 90 (ix a1) ((wr M 89 (ix a1) (M 107 (ix a1))) 107 (ix (8 + a1)))) 107 (ix (16 + a1))))
      else none
      else none
      else none
      else none
      else none
      else none
def fM_back (M : Mem) : Option (Int32 × Mem) :=
  if (M 85 51) = (-1) then
    some ((-3), M)
  else
    fM_back_b13 1000 0 M
def fM_count_b89 : Nat → Int32 → Int32 → Mem → Option (Int32 × Mem)
  | 0, _, _, _ => none
  | z + 1, a2, a3, M =>
    if 8 ≤ a3 then
      some (a2, M)
    else
      if ib a3 8 then
      fM_count_b89 z (a2 + (M 89 (ix a3))) (a3 + 1) M
      else none
def fM_count (a1 : Int32) (M : Mem) : Option (Int32 × Mem) :=
  (fM_in (a1.toInt64) (0 : Int64) (6 : Int64) M).bind fun w1 =>
  if w1.1 = 0 then
    some ((-2), w1.2)
  else
    if 6 ≤ a1 then
      fM_count_b89 1000 0 0 w1.2
    else
      if a1 = 0 then
        some ((w1.2 85 17), w1.2)
      else
        if a1 = 1 then
          some ((w1.2 85 11), w1.2)
        else
          if a1 = 2 then
            some ((w1.2 85 7), w1.2)
          else
            if a1 = 3 then
              some ((w1.2 85 3), w1.2)
            else
              if a1 = 4 then
                some ((w1.2 85 6), w1.2)
              else
                some ((w1.2 85 4), w1.2)
def fM_cell_b83 (s0 : Int32) (s1 : Int32) (M : Mem) : Option (Int32 × Mem) :=
  if ib s1 160 then
  some (1, (wr M 112 (ix s1) s0))
  else none
def fM_cell (a1 : Int32) (a2 : Int32) (a3 : Int32) (M : Mem) : Option (Int32 × Mem) :=
  (fM_isSheet a1 M).bind fun w1 =>
  if w1.1 = 0 then
    some ((-2), w1.2)
  else
    if ib a1 4 then
    if (w1.2 109 (ix a1)) = 0 then
      some ((-11), w1.2)
    else
      if ib a1 4 then
      (fM_in (a2.toInt64) (0 : Int64) (((w1.2 111 (ix a1)) - 1).toInt64) w1.2).bind fun w2 =>
      if w2.1 = 0 then
        some ((-12), w2.2)
      else
        if ib a1 4 then
        if (w2.2 110 (ix a1)) = 0 then
          fM_cell_b83 (a3.toInt8.toInt32) ((40 * a1) + a2) w2.2
        else
          if ib a1 4 then
          if (w2.2 110 (ix a1)) = 1 then
            fM_cell_b83 (a3.toInt16.toInt32) ((40 * a1) + a2) w2.2
          else
            fM_cell_b83 a3 ((40 * a1) + a2) w2.2
          else none
        else none
      else none
    else none
def fM_copy_b145 (k121 : Int32 → Mem → Option (Int32 × Mem)) (a1 : Int32) (a2 : Int32) (a3 : Int32) (a4 : Int32) (a5 : Int32) (a6 : Int32) (a7 : Int32) (s0 : Int32) (M : Mem) : Option (Int32 × Mem) :=
  if ib (((40 * a1) + a2) + s0) 160 then
  if ib (((40 * a3) + a4) + s0) 160 then
  k121 (a7 + 1) (wr M 112 (ix (((40 * a3) + a4) + s0)) (M 112 (ix (((40 * a1) + a2) + s0))))
  else none
  else none
def fM_copy_b121 (a1 : Int32) (a2 : Int32) (a3 : Int32) (a4 : Int32) (a5 : Int32) (a6 : Int32) : Nat → Int32 → Mem → Option (Int32 × Mem)
  | 0, _, _ => none
  | z + 1, a7, M =>
    if a5 ≤ a7 then
      some (a5, M)
    else
      if a6 = 0 then
        fM_copy_b145 (fM_copy_b121 a1 a2 a3 a4 a5 a6 z) a1 a2 a3 a4 a5 a6 a7 a7 M
      else
        fM_copy_b145 (fM_copy_b121 a1 a2 a3 a4 a5 a6 z) a1 a2 a3 a4 a5 a6 a7 ((a5 - 1) - a7) M
def fM_copy_b116 (a1 : Int32) (a2 : Int32) (a3 : Int32) (a4 : Int32) (a5 : Int32) (s0 : Int32) (M : Mem) : Option (Int32 × Mem) :=
  fM_copy_b121 a1 a2 a3 a4 a5 s0 1000 0 M
def fM_copy_b115 (a1 : Int32) (a2 : Int32) (a3 : Int32) (a4 : Int32) (a5 : Int32) (M : Mem) : Option (Int32 × Mem) :=
  fM_copy_b116 a1 a2 a3 a4 a5 0 M
def fM_copy (a1 : Int32) (a2 : Int32) (a3 : Int32) (a4 : Int32) (a5 : Int32) (M : Mem) : Option (Int32 × Mem) :=
  (fM_isSheet a1 M).bind fun w1 =>
  if w1.1 = 0 then
    some ((-2), w1.2)
  else
    (fM_isSheet a3 w1.2).bind fun w2 =>
    if w2.1 = 0 then
      some ((-2), w2.2)
    else
      if ib a1 4 then
      if (w2.2 109 (ix a1)) = 0 then
        some ((-11), w2.2)
      else
        if ib a3 4 then
        if (w2.2 109 (ix a3)) = 0 then
          some ((-11), w2.2)
        else
          if ib a1 4 then
          if ib a3 4 then
          if (w2.2 110 (ix a1)) = (w2.2 110 (ix a3)) then
            if a5 < 0 then
              some ((-12), w2.2)
            else
              if a2 < 0 then
                some ((-12), w2.2)
              else
                if a4 < 0 then
                  some ((-12), w2.2)
                else
                  if ib a1 4 then
                  if ((w2.2 111 (ix a1)) - a5) < a2 then
                    some ((-12), w2.2)
                  else
                    if ib a3 4 then
                    if a4 ≤ ((w2.2 111 (ix a3)) - a5) then
                      if a1 = a3 then
                        if a4 ≤ a2 then
                          fM_copy_b115 a1 a2 a3 a4 a5 w2.2
                        else
                          fM_copy_b116 a1 a2 a3 a4 a5 1 w2.2
                      else
                        fM_copy_b115 a1 a2 a3 a4 a5 w2.2
                    else
                      some ((-12), w2.2)
                    else none
                  else none
          else
            some ((-13), w2.2)
          else none
          else none
        else none
      else none
def fM_maids_b158 (k75 : Int32 → Int32 → Mem → Option (Int32 × Mem)) (a1 : Int32) (a3 : Int32) (a4 : Int32) (a6 : Int32) (s0 : Int32) (s1 : Int32) (M : Mem) : Option (Int32 × Mem) :=
  k75 (s1 + s0) (a6 + 1) M
def fM_maids_b75 (a1 : Int32) (a3 : Int32) (a4 : Int32) : Nat → Int32 → Int32 → Mem → Option (Int32 × Mem)
  | 0, _, _, _ => none
  | z + 1, a5, a6, M =>
    if a4 ≤ a6 then
      some (a5, M)
    else
      if a3 < 0 then
        some ((-12), M)
      else
        if ib a1 4 then
        if a3 ≤ (((M 111 (ix a1)) - (3 * a6)) - 3) then
          if ib (((40 * a1) + a3) + (3 * a6)) 160 then
          if ib ((((40 * a1) + a3) + (3 * a6)) + 1) 160 then
          if ib ((((40 * a1) + a3) + (3 * a6)) + 2) 160 then
          (fM_maid (M 112 (ix (((40 * a1) + a3) + (3 * a6)))) (M 112 (ix ((((40 * a1) + a3) + (3 * a6)) + 1))) (M 112 (ix ((((40 * a1) + a3) + (3 * a6)) + 2))) M).bind fun w4 =>
          if w4.1 < 0 then
            fM_maids_b158 (fM_maids_b75 a1 a3 a4 z) a1 a3 a4 a6 0 a5 w4.2
          else
            fM_maids_b158 (fM_maids_b75 a1 a3 a4 z) a1 a3 a4 a6 1 a5 w4.2
          else none
          else none
          else none
        else
          some ((-12), M)
        else none
def fM_maids_b57 (a1 : Int32) (a3 : Int32) (a4 : Int32) (M : Mem) : Option (Int32 × Mem) :=
  if ib a1 4 then
  if (M 109 (ix a1)) = 0 then
    some ((-11), M)
  else
    fM_maids_b75 a1 a3 a4 1000 0 0 M
  else none
def fM_maids (a1 : Int32) (a2 : Int32) (a3 : Int32) (a4 : Int32) (M : Mem) : Option (Int32 × Mem) :=
  (fM_isSheet a1 M).bind fun w1 =>
  if w1.1 = 0 then
    some ((-2), w1.2)
  else
    (fM_in (a2.toInt64) (0 : Int64) (2 : Int64) w1.2).bind fun w2 =>
    if w2.1 = 0 then
      some ((-2), w2.2)
    else
      (fM_in (a4.toInt64) (0 : Int64) (4 : Int64) w2.2).bind fun w3 =>
      if w3.1 = 0 then
        some ((-2), w3.2)
      else
        if ib a1 4 then
        if (w3.2 109 (ix a1)) = 0 then
          fM_maids_b57 a1 a3 a4 w3.2
        else
          if ib a1 4 then
          if (w3.2 110 (ix a1)) = a2 then
            fM_maids_b57 a1 a3 a4 w3.2
          else
            some ((-13), w3.2)
          else none
        else none
def fM_over (a0 : Int32) (M : Mem) : Option (Int32 × Mem) :=
  if a0 = 0 then
    some ((-1), M)
  else
    if a0 = 3 then
      some (1, M)
    else
      if a0 = 4 then
        some (2, M)
      else
        some (0, M)
def fM_taken_b51 (a1 : Int32) (a2 : Int32) (a3 : Int32) (M : Mem) : Option (Int32 × Mem) :=
  if a3 = a2 then
    if ib a1 4 then
    some ((M 93 (ix a1)), M)
    else none
  else
    some ((-13), M)
def fM_taken_b33 (a1 : Int32) (a2 : Int32) : Nat → Int32 → Mem → Option (Int32 × Mem)
  | 0, _, _ => none
  | z + 1, a3, M =>
    if a3 = (-1) then
      fM_taken_b51 a1 a2 a3 M
    else
      if a3 = a2 then
        fM_taken_b51 a1 a2 a3 M
      else
        (fM_over a3 M).bind fun w3 =>
        fM_taken_b33 a1 a2 z w3.1 w3.2
def fM_taken (a1 : Int32) (a2 : Int32) (M : Mem) : Option (Int32 × Mem) :=
  (fM_in (a2.toInt64) (0 : Int64) (5 : Int64) M).bind fun w1 =>
  if w1.1 = 0 then
    some ((-2), w1.2)
  else
    (fM_isMaid a1 w1.2).bind fun w2 =>
    if w2.1 = 0 then
      some ((-11), w2.2)
    else
      if ib a1 4 then
      fM_taken_b33 a1 a2 1000 (w2.2 92 (ix a1)) w2.2
      else none
