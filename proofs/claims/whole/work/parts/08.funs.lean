/-! the functions of the methods, over the memory -/
def sch (k : Nat) (i : Int) : Int := (((cdS k).getD i.toNat 0 : Nat) : Int)
def sixF (c : Int) : List Nat → Int → Int
  | [], _ => -1
  | x :: l, i => if (x : Int) = c then i else sixF c l (i + 1)
def six (k : Nat) (c : Int) : Int := sixF c (cdS k) 0
def f_X0_beginIn (x0 x1 : Int) (μ : Mem) : Option (Int × Mem) :=
  nm (ms μ x0 0 x1) fun μ1 => (
  gd (isK x1 3) (
  nm (ms μ1 x0 1 (μ1 x1 4)) fun μ4 => (
  nm (ms μ4 x0 2 (μ4 x1 6)) fun μ6 => (
  nm (ms μ6 x0 3 (μ6 x1 7)) fun μ8 => (
  nm (ms μ8 x0 4 0) fun μ10 => (
  nm (cpm μ10 (x1 + 3) (x0 + 1) 9) fun μ12 => (
  some (0, μ12))))))))
def f_X0_takeOver (x0 x1 : Int) (μ : Mem) : Option (Int × Mem) :=
  gd (isK x1 0) (
  nm (ms μ x0 0 (μ x1 0)) fun μ2 => (
  nm (ms μ2 x0 1 (μ2 x1 1)) fun μ4 => (
  nm (ms μ4 x0 2 (μ4 x1 2)) fun μ6 => (
  nm (ms μ6 x0 3 (μ6 x1 3)) fun μ8 => (
  nm (ms μ8 x0 4 (μ8 x1 4)) fun μ10 => (
  nm (cpm μ10 (x1 + 1) (x0 + 1) 9) fun μ12 => (
  some (0, μ12))))))))
def f_X3_hasLane (x0 x1 : Int) (μ : Mem) : Option (Int × Mem) :=
  if nrm x1 < 0 then (
    some (0, μ))
  else (
    if nrm (μ x0 1) ≤ nrm x1 then (
      some (0, μ))
    else (
      if nrm 9 ≤ nrm x1 then (
        some (0, μ))
      else (
        some (1, μ))))
def f_X0_depthOf (x0 x1 : Int) (μ : Mem) : Option (Int × Mem) :=
  gd (isK (μ x0 0) 3) (
  bn (f_X3_hasLane (μ x0 0) x1 μ) fun r3 μ2 => (
  if nrm r3 = 0 then (
    some (0, μ2))
  else (
    gd (0 ≤ nrm x1 ∧ nrm x1 < 9) (
    some ((μ2 (x0 + 1) (nrm x1)), μ2)))))
def f_X0_allDepths_w4 : Nat → Int → Int → Int → Mem → Option (Int × Mem)
  | 0, _, _, _, _ => none
  | n + 1, x0, x1, x2, μ =>
  gd (isK (μ x0 0) 3) (
  if nrm (μ (μ x0 0) 1) ≤ nrm x2 then (
    some (x1, μ))
  else (
    if nrm 9 ≤ nrm x2 then (
      some (x1, μ))
    else (
      gd (0 ≤ nrm x2 ∧ nrm x2 < 9) (
      nm (x1 + (μ (x0 + 1) (nrm x2))) fun v5 => (
      f_X0_allDepths_w4 n x0 v5 (x2 + 1) μ)))))
def f_X0_allDepths (x0 : Int) (μ : Mem) : Option (Int × Mem) :=
  f_X0_allDepths_w4 FU x0 0 0 μ
def f_X4_hasLaw (x0 x1 : Int) (μ : Mem) : Option (Int × Mem) :=
  if nrm x1 < 0 then (
    some (0, μ))
  else (
    if nrm 2 ≤ nrm x1 then (
      some (0, μ))
    else (
      gd (0 ≤ nrm x1 ∧ nrm x1 < 2) (
      gd (0 ≤ nrm x1 ∧ nrm x1 < 2) (
      if nrm (μ (x0 + 3) (nrm x1)) ≤ nrm (μ (x0 + 2) (nrm x1)) then (
        some (0, μ))
      else (
        some (1, μ))))))
def f_J6_bitCount_0f7a4 (x0 : Int) (μ : Mem) : Option (Int × Mem) :=
  nm (x0 - (jand (jushr x0 1) 1431655765)) fun v1 => (
  nm ((jand v1 858993459) + (jand (jushr v1 2) 858993459)) fun v3 => (
  nm (jand (v3 + (jushr v3 4)) 252645135) fun v5 => (
  nm (v5 + (jushr v5 8)) fun v7 => (
  nm (v7 + (jushr v7 16)) fun v9 => (
  some ((jand v9 63), μ))))))
def f_X4_look (x0 x1 x2 x3 x4 x5 x6 : Int) (μ : Mem) : Option (Int × Mem) :=
  nm (ms μ (x0 + 4) 0 x1) fun μ1 => (
  nm (ms μ1 (x0 + 4) 1 x2) fun μ3 => (
  nm (ms μ3 (x0 + 4) 2 x3) fun μ5 => (
  nm (ms μ5 (x0 + 4) 3 x4) fun μ7 => (
  nm (ms μ7 (x0 + 4) 4 x5) fun μ9 => (
  nm (ms μ9 (x0 + 4) 5 x6) fun μ11 => (
  some (0, μ11)))))))
def f_J9_max_7cf53 (x0 x1 : Int) (μ : Mem) : Option (Int × Mem) :=
  if nrm x0 < nrm x1 then (
    some (x1, μ))
  else (
    some (x0, μ))
def f_J9_min_7cf53 (x0 x1 : Int) (μ : Mem) : Option (Int × Mem) :=
  if nrm x1 < nrm x0 then (
    some (x1, μ))
  else (
    some (x0, μ))
def f_X4_push (x0 x1 : Int) (μ : Mem) : Option (Int × Mem) :=
  if nrm (μ x0 6) < 0 then (
    some (0, μ))
  else (
    if nrm 64 ≤ nrm (μ x0 6) then (
      some (0, μ))
    else (
      gd (0 ≤ nrm (μ x0 6) ∧ nrm (μ x0 6) < 64) (
      nm (ms μ (x0 + 5) (nrm (μ x0 6)) x1) fun μ3 => (
      nm (ms μ3 x0 6 ((μ3 x0 6) + 1)) fun μ6 => (
      some (0, μ6))))))
def f_X4_pop (x0 : Int) (μ : Mem) : Option (Int × Mem) :=
  if nrm (μ x0 6) < nrm 1 then (
    some (0, μ))
  else (
    if nrm (μ x0 6) ≤ nrm 64 then (
      nm (ms μ x0 6 ((μ x0 6) - 1)) fun μ3 => (
      gd (0 ≤ nrm (μ3 x0 6) ∧ nrm (μ3 x0 6) < 64) (
      some ((μ3 (x0 + 5) (nrm (μ3 x0 6))), μ3))))
    else (
      some (0, μ)))
def f_X4_reckon_j31 (s0 : Int) (μ : Mem) : Option (Int × Mem) :=
  if nrm (kcmp s0 1000000) ≤ 0 then (
    if 0 ≤ nrm (kcmp s0 (-1000000)) then (
      some (s0, μ))
    else (
      some ((-1000000), μ)))
  else (
    some (1000000, μ))
def f_X4_reckon (x0 x1 x2 : Int) (μ : Mem) : Option (Int × Mem) :=
  if nrm x0 = nrm 2 then (
    f_X4_reckon_j31 ((nrm x1) + (nrm x2)) μ)
  else (
    if nrm x0 = nrm 3 then (
      f_X4_reckon_j31 ((nrm x1) - (nrm x2)) μ)
    else (
      f_X4_reckon_j31 ((nrm x1) * (nrm x2)) μ))
def f_X4_compare (x0 x1 x2 : Int) (μ : Mem) : Option (Int × Mem) :=
  if nrm x0 = 5 then (
    if nrm x1 = nrm x2 then (
      some (1, μ))
    else (
      some (0, μ)))
  else (
  if nrm x0 = 6 then (
    if nrm x2 ≤ nrm x1 then (
      some (0, μ))
    else (
      some (1, μ)))
  else (
  if nrm x0 = 7 then (
    if nrm x1 ≤ nrm x2 then (
      some (0, μ))
    else (
      some (1, μ)))
  else (
  if nrm x0 = 9 then (
    some ((jand x1 x2), μ))
  else (
    some ((jor x1 x2), μ)))))
def f_X4_tell_j254 (k60 : Int → Int → Int → Mem → Option (Int × Mem)) (x0 x3 x4 : Int) (μ : Mem) : Option (Int × Mem) :=
  k60 x0 x3 (x4 + 1) μ
def f_X4_tell_j251 (k60 : Int → Int → Int → Mem → Option (Int × Mem)) (x0 x3 x4 s0 s1 : Int) (μ : Mem) : Option (Int × Mem) :=
  gd (isK s0 4) (
  bn (f_X4_push s0 s1 μ) fun r3 μ2 => (
  f_X4_tell_j254 k60 x0 x3 x4 μ2))
def f_X4_tell_j205 (k60 : Int → Int → Int → Mem → Option (Int × Mem)) (x0 x3 x4 s0 s1 : Int) (μ : Mem) : Option (Int × Mem) :=
  gd (isK s0 4) (
  bn (f_X4_push s0 s1 μ) fun r3 μ2 => (
  f_X4_tell_j254 k60 x0 x3 x4 μ2))
def f_X4_tell_j165 (k60 : Int → Int → Int → Mem → Option (Int × Mem)) (x0 x3 x4 s0 s1 : Int) (μ : Mem) : Option (Int × Mem) :=
  gd (isK s0 4) (
  bn (f_X4_push s0 s1 μ) fun r3 μ2 => (
  f_X4_tell_j254 k60 x0 x3 x4 μ2))
def f_X4_tell_j139 (k60 : Int → Int → Int → Mem → Option (Int × Mem)) (x0 x3 x4 s0 s1 : Int) (μ : Mem) : Option (Int × Mem) :=
  gd (isK s0 4) (
  bn (f_X4_push s0 s1 μ) fun r3 μ2 => (
  f_X4_tell_j254 k60 x0 x3 x4 μ2))
def f_X4_tell_j138 (k60 : Int → Int → Int → Mem → Option (Int × Mem)) (x0 x3 x4 s0 : Int) (μ : Mem) : Option (Int × Mem) :=
  f_X4_tell_j139 k60 x0 x3 x4 s0 0 μ
def f_X4_tell_w60 : Nat → Int → Int → Int → Mem → Option (Int × Mem)
  | 0, _, _, _, _ => none
  | n + 1, x0, x3, x4, μ =>
  if nrm x3 ≤ nrm x4 then (
    bn (f_X4_pop x0 μ) fun r3 μ2 => (
    some (r3, μ2)))
  else (
    gd (0 ≤ nrm x4 ∧ nrm x4 < 900) (
    nm (jdiv (μ (x0 + 1) (nrm x4)) 1000) fun v6 => (
    gd (0 ≤ nrm x4 ∧ nrm x4 < 900) (
    nm (jrem (μ (x0 + 1) (nrm x4)) 1000) fun v9 => (
    if nrm v6 = 0 then (
      bn (f_X4_push x0 v9 μ) fun r46 μ45 => (
      f_X4_tell_j254 (f_X4_tell_w60 n) x0 x3 x4 μ45))
    else (
      if nrm v6 = nrm 1 then (
        if nrm v9 < 0 then (
          f_X4_tell_j138 (f_X4_tell_w60 n) x0 x3 x4 x0 μ)
        else (
          if nrm 6 ≤ nrm v9 then (
            f_X4_tell_j138 (f_X4_tell_w60 n) x0 x3 x4 x0 μ)
          else (
            gd (0 ≤ nrm v9 ∧ nrm v9 < 6) (
            f_X4_tell_j139 (f_X4_tell_w60 n) x0 x3 x4 x0 (μ (x0 + 4) (nrm v9)) μ))))
      else (
        if nrm v6 = nrm 8 then (
          bn (f_X4_pop x0 μ) fun r39 μ38 => (
          if nrm r39 = 0 then (
            f_X4_tell_j165 (f_X4_tell_w60 n) x0 x3 x4 x0 1 μ38)
          else (
            f_X4_tell_j165 (f_X4_tell_w60 n) x0 x3 x4 x0 0 μ38)))
        else (
          if nrm v6 = nrm 11 then (
            bn (f_X4_pop x0 μ) fun r29 μ28 => (
            bn (f_X4_pop x0 μ28) fun r32 μ31 => (
            bn (f_X4_pop x0 μ31) fun r35 μ34 => (
            if nrm r35 = 0 then (
              f_X4_tell_j205 (f_X4_tell_w60 n) x0 x3 x4 x0 r29 μ34)
            else (
              f_X4_tell_j205 (f_X4_tell_w60 n) x0 x3 x4 x0 r32 μ34)))))
          else (
            bn (f_X4_pop x0 μ) fun r16 μ15 => (
            bn (f_X4_pop x0 μ15) fun r19 μ18 => (
            if nrm 5 ≤ nrm v6 then (
              bn (f_X4_compare v6 r19 r16 μ18) fun r23 μ22 => (
              f_X4_tell_j251 (f_X4_tell_w60 n) x0 x3 x4 x0 r23 μ22))
            else (
              bn (f_X4_reckon v6 r19 r16 μ18) fun r26 μ25 => (
              f_X4_tell_j251 (f_X4_tell_w60 n) x0 x3 x4 x0 r26 μ25)))))))))))))
def f_X4_tell_j56 (x0 x2 s0 : Int) (μ : Mem) : Option (Int × Mem) :=
  f_X4_tell_w60 FU x0 s0 x2 μ
def f_X4_tell_j38 (x0 x2 : Int) (μ : Mem) : Option (Int × Mem) :=
  f_X4_tell_j56 x0 x2 0 μ
def f_X4_tell_j28 (x0 x1 s0 : Int) (μ : Mem) : Option (Int × Mem) :=
  if nrm x1 < 0 then (
    f_X4_tell_j38 x0 s0 μ)
  else (
    if nrm x1 < nrm 2 then (
      gd (0 ≤ nrm x1 ∧ nrm x1 < 2) (
      bn (f_J9_min_7cf53 900 (μ (x0 + 3) (nrm x1)) μ) fun r5 μ4 => (
      f_X4_tell_j56 x0 s0 r5 μ4)))
    else (
      f_X4_tell_j38 x0 s0 μ))
def f_X4_tell_j14 (x0 x1 : Int) (μ : Mem) : Option (Int × Mem) :=
  f_X4_tell_j28 x0 x1 0 μ
def f_X4_tell (x0 x1 : Int) (μ : Mem) : Option (Int × Mem) :=
  nm (ms μ x0 6 0) fun μ1 => (
  if nrm x1 < 0 then (
    f_X4_tell_j14 x0 x1 μ1)
  else (
    if nrm x1 < nrm 2 then (
      gd (0 ≤ nrm x1 ∧ nrm x1 < 2) (
      bn (f_J9_max_7cf53 0 (μ1 (x0 + 2) (nrm x1)) μ1) fun r7 μ6 => (
      f_X4_tell_j28 x0 x1 r7 μ6)))
    else (
      f_X4_tell_j14 x0 x1 μ1)))
def f_X3_mayGo (x0 x1 x2 x3 : Int) (μ : Mem) : Option (Int × Mem) :=
  bn (f_X3_hasLane x0 x1 μ) fun r2 μ1 => (
  if nrm r2 = 0 then (
    some (0, μ1))
  else (
    bn (f_X4_hasLaw (x0 + 7) 1 μ1) fun r6 μ5 => (
    if nrm r6 = 0 then (
      if nrm (μ5 x0 5) < nrm x2 then (
        some (0, μ5))
      else (
        some (1, μ5)))
    else (
      gd (0 ≤ nrm x1 ∧ nrm x1 < 9) (
      gd (isK x3 0) (
      bn (f_J6_bitCount_0f7a4 (μ5 x3 3) μ5) fun r12 μ11 => (
      bn (f_X4_look (x0 + 7) x1 x2 (μ5 (x0 + 4) (nrm x1)) (μ5 x0 5) (μ5 x3 2) r12 μ11) fun r15 μ14 => (
      bn (f_X4_tell (x0 + 7) 1 μ14) fun r18 μ17 => (
      if nrm r18 = 0 then (
        some (0, μ17))
      else (
        some (1, μ17)))))))))))
def f_X0_isOpen (x0 x1 : Int) (μ : Mem) : Option (Int × Mem) :=
  gd (isK (μ x0 0) 3) (
  bn (f_X3_hasLane (μ x0 0) x1 μ) fun r3 μ2 => (
  if nrm r3 = 0 then (
    some (0, μ2))
  else (
    gd (0 ≤ nrm x1 ∧ nrm x1 < 9) (
    gd (isK (μ2 x0 0) 3) (
    bn (f_X3_mayGo (μ2 x0 0) x1 (μ2 (x0 + 1) (nrm x1)) x0 μ2) fun r9 μ8 => (
    if nrm r9 = 0 then (
      some (0, μ8))
    else (
      some (1, μ8))))))))
def f_X0_openLanes_j45 (k4 : Int → Int → Int → Mem → Option (Int × Mem)) (x0 x1 x2 : Int) (μ : Mem) : Option (Int × Mem) :=
  k4 x0 x1 (x2 + 1) μ
def f_X0_openLanes_w4 : Nat → Int → Int → Int → Mem → Option (Int × Mem)
  | 0, _, _, _, _ => none
  | n + 1, x0, x1, x2, μ =>
  gd (isK (μ x0 0) 3) (
  if nrm (μ (μ x0 0) 1) ≤ nrm x2 then (
    some (x1, μ))
  else (
    if nrm 9 ≤ nrm x2 then (
      some (x1, μ))
    else (
      gd (0 ≤ nrm x2 ∧ nrm x2 < 9) (
      bn (f_X3_mayGo (μ x0 0) x2 (μ (x0 + 1) (nrm x2)) x0 μ) fun r6 μ5 => (
      if nrm r6 = 0 then (
        f_X0_openLanes_j45 (f_X0_openLanes_w4 n) x0 x1 x2 μ5)
      else (
        nm (jor x1 (jshl 1 x2)) fun v9 => (
        f_X0_openLanes_j45 (f_X0_openLanes_w4 n) x0 v9 x2 μ5)))))))
def f_X0_openLanes (x0 : Int) (μ : Mem) : Option (Int × Mem) :=
  f_X0_openLanes_w4 FU x0 0 0 μ
def f_X0_fillingsOf_w6 : Nat → Int → Int → Int → Mem → Option (Int × Mem)
  | 0, _, _, _, _ => none
  | n + 1, x0, x1, x2, μ =>
  if nrm x2 < 0 then (
    some ((-1), μ))
  else (
    gd (isK (μ x0 0) 3) (
    bn (f_X3_mayGo (μ x0 0) x1 x2 x0 μ) fun r4 μ3 => (
    if nrm r4 = 0 then (
      f_X0_fillingsOf_w6 n x0 x1 (x2 + (-1)) μ3)
    else (
      bn (f_X0_depthOf x0 x1 μ3) fun r8 μ7 => (
      some ((r8 - x2), μ7))))))
def f_X0_fillingsOf (x0 x1 : Int) (μ : Mem) : Option (Int × Mem) :=
  bn (f_X0_depthOf x0 x1 μ) fun r2 μ1 => (
  f_X0_fillingsOf_w6 FU x0 x1 r2 μ1)
def f_X3_otherEnd (x0 x1 x2 : Int) (μ : Mem) : Option (Int × Mem) :=
  bn (f_X3_hasLane x0 x1 μ) fun r2 μ1 => (
  if nrm r2 = 0 then (
    some ((-1), μ1))
  else (
    gd (0 ≤ nrm x1 ∧ nrm x1 < 9) (
    if nrm (μ1 (x0 + 1) (nrm x1)) = nrm x2 then (
      gd (0 ≤ nrm x1 ∧ nrm x1 < 9) (
      some ((μ1 (x0 + 2) (nrm x1)), μ1)))
    else (
      gd (0 ≤ nrm x1 ∧ nrm x1 < 9) (
      if nrm (μ1 (x0 + 2) (nrm x1)) = nrm x2 then (
        gd (0 ≤ nrm x1 ∧ nrm x1 < 9) (
        some ((μ1 (x0 + 1) (nrm x1)), μ1)))
      else (
        some ((-1), μ1)))))))
def f_X0_whyNoGoing (x0 x1 : Int) (μ : Mem) : Option (Int × Mem) :=
  gd (isK (μ x0 0) 3) (
  bn (f_X3_hasLane (μ x0 0) x1 μ) fun r3 μ2 => (
  if nrm r3 = 0 then (
    some (1, μ2))
  else (
    gd (isK (μ2 x0 0) 3) (
    bn (f_X3_otherEnd (μ2 x0 0) x1 (μ2 x0 1) μ2) fun r8 μ7 => (
    if nrm r8 = nrm (-1) then (
      some (2, μ7))
    else (
      gd (0 ≤ nrm x1 ∧ nrm x1 < 9) (
      gd (isK (μ7 x0 0) 3) (
      bn (f_X3_mayGo (μ7 x0 0) x1 (μ7 (x0 + 1) (nrm x1)) x0 μ7) fun r14 μ13 => (
      if nrm r14 = 0 then (
        some (3, μ13))
      else (
        some (0, μ13)))))))))))
def f_X3_wornFrom (x0 x1 x2 x3 : Int) (μ : Mem) : Option (Int × Mem) :=
  bn (f_X3_hasLane x0 x1 μ) fun r2 μ1 => (
  if nrm r2 = 0 then (
    some (x2, μ1))
  else (
    bn (f_X4_hasLaw (x0 + 7) 0 μ1) fun r6 μ5 => (
    if nrm r6 = 0 then (
      gd (0 ≤ nrm x1 ∧ nrm x1 < 9) (
      if nrm ((μ5 (x0 + 4) (nrm x1)) + x3) ≤ nrm 5 then (
        some (x2, μ5))
      else (
        bn (f_J9_min_7cf53 6 (x2 + 1) μ5) fun r25 μ24 => (
        some (r25, μ24)))))
    else (
      gd (0 ≤ nrm x1 ∧ nrm x1 < 9) (
      bn (f_X4_look (x0 + 7) x1 x2 (μ5 (x0 + 4) (nrm x1)) (μ5 x0 5) x3 0 μ5) fun r11 μ10 => (
      bn (f_X4_tell (x0 + 7) 0 μ10) fun r14 μ13 => (
      bn (f_J9_min_7cf53 6 r14 μ13) fun r17 μ16 => (
      bn (f_J9_max_7cf53 0 r17 μ16) fun r20 μ19 => (
      some (r20, μ19))))))))))
def f_X0_goBy (x0 x1 : Int) (μ : Mem) : Option (Int × Mem) :=
  gd (isK (μ x0 0) 3) (
  bn (f_X3_otherEnd (μ x0 0) x1 (μ x0 1) μ) fun r3 μ2 => (
  if nrm r3 = nrm (-1) then (
    some (0, μ2))
  else (
    gd (isK (μ2 x0 0) 3) (
    bn (f_X3_hasLane (μ2 x0 0) x1 μ2) fun r8 μ7 => (
    if nrm r8 = 0 then (
      some (0, μ7))
    else (
      nm (ms μ7 x0 1 r3) fun μ11 => (
      gd (0 ≤ nrm x1 ∧ nrm x1 < 9) (
      gd (isK (μ11 x0 0) 3) (
      bn (f_X3_wornFrom (μ11 x0 0) x1 (μ11 (x0 + 1) (nrm x1)) (μ11 x0 2) μ11) fun r16 μ15 => (
      gd (0 ≤ nrm x1 ∧ nrm x1 < 9) (
      nm (ms μ15 (x0 + 1) (nrm x1) r16) fun μ18 => (
      nm (ms μ18 x0 4 ((μ18 x0 4) + 1)) fun μ21 => (
      some (0, μ21))))))))))))))
def f_X0_tryDepth (x0 x1 x2 : Int) (μ : Mem) : Option (Int × Mem) :=
  gd (isK (μ x0 0) 3) (
  bn (f_X3_hasLane (μ x0 0) x1 μ) fun r3 μ2 => (
  if nrm r3 = 0 then (
    some (1, μ2))
  else (
    gd (0 ≤ nrm x1 ∧ nrm x1 < 9) (
    if nrm ((μ2 (x0 + 1) (nrm x1)) + x2) < 0 then (
      some (2, μ2))
    else (
      gd (0 ≤ nrm x1 ∧ nrm x1 < 9) (
      if nrm ((μ2 (x0 + 1) (nrm x1)) + x2) ≤ nrm 6 then (
        gd (0 ≤ nrm x1 ∧ nrm x1 < 9) (
        gd (0 ≤ nrm x1 ∧ nrm x1 < 9) (
        nm (ms μ2 (x0 + 1) (nrm x1) ((μ2 (x0 + 1) (nrm x1)) + x2)) fun μ11 => (
        some (0, μ11)))))
      else (
        some (2, μ2))))))))
def f_X0_tryTurning (x0 x1 : Int) (μ : Mem) : Option (Int × Mem) :=
  if nrm x1 < 0 then (
    some (1, μ))
  else (
    gd (isK (μ x0 0) 3) (
    if nrm x1 < nrm (μ (μ x0 0) 2) then (
      nm (ms μ x0 3 (jxor (μ x0 3) (jshl 1 x1))) fun μ4 => (
      some (0, μ4)))
    else (
      some (1, μ))))
def f_X3_backBehindSeason_j44 (k10 : Int → Int → Int → Int → Mem → Option (Int × Mem)) (x0 x2 x3 x4 : Int) (μ : Mem) : Option (Int × Mem) :=
  k10 x0 x2 x3 (x4 + 1) μ
def f_X3_backBehindSeason_w10 : Nat → Int → Int → Int → Int → Mem → Option (Int × Mem)
  | 0, _, _, _, _, _ => none
  | n + 1, x0, x2, x3, x4, μ =>
  if nrm (μ x0 2) ≤ nrm x4 then (
    some (x3, μ))
  else (
    if nrm 8 ≤ nrm x4 then (
      some (x3, μ))
    else (
      gd (0 ≤ nrm x4 ∧ nrm x4 < 8) (
      if nrm x2 < nrm (μ (x0 + 6) (nrm x4)) then (
        f_X3_backBehindSeason_j44 (f_X3_backBehindSeason_w10 n) x0 x2 x3 x4 μ)
      else (
        nm (jor x3 (jshl 1 x4)) fun v5 => (
        f_X3_backBehindSeason_j44 (f_X3_backBehindSeason_w10 n) x0 x2 v5 x4 μ)))))
def f_X3_backBehindSeason (x0 x1 : Int) (μ : Mem) : Option (Int × Mem) :=
  bn (f_J6_bitCount_0f7a4 x1 μ) fun r2 μ1 => (
  f_X3_backBehindSeason_w10 FU x0 r2 x1 0 μ1)
def f_X0_tryDeed (x0 x1 : Int) (μ : Mem) : Option (Int × Mem) :=
  if nrm (kcmp x1 0) < 0 then (
    some (1, μ))
  else (
    if nrm (kcmp x1 50) ≤ 0 then (
      nm (krem x1 10) fun v3 => (
      if nrm (x1 - (nrm v3)) = 0 then (
        bn (f_X0_whyNoGoing x0 v3 μ) fun r7 μ6 => (
        if nrm r7 = 0 then (
          bn (f_X0_goBy x0 v3 μ6) fun r11 μ10 => (
          some (r7, μ10)))
        else (
          some (r7, μ6))))
      else (
      if nrm (x1 - (nrm v3)) = 10 then (
        bn (f_X0_tryDepth x0 v3 (-1) μ) fun r15 μ14 => (
        some (r15, μ14)))
      else (
      if nrm (x1 - (nrm v3)) = 20 then (
        bn (f_X0_tryDepth x0 v3 1 μ) fun r19 μ18 => (
        some (r19, μ18)))
      else (
      if nrm (x1 - (nrm v3)) = 30 then (
        nm (ms μ x0 2 v3) fun μ22 => (
        some (0, μ22)))
      else (
      if nrm (x1 - (nrm v3)) = 40 then (
        bn (f_X0_tryTurning x0 v3 μ) fun r26 μ25 => (
        some (r26, μ25)))
      else (
      gd (isK (μ x0 0) 3) (
      bn (f_X3_backBehindSeason (μ x0 0) (μ x0 3) μ) fun r30 μ29 => (
      nm (ms μ29 x0 3 r30) fun μ32 => (
      some (0, μ32)))))))))))
    else (
      some (1, μ)))
def f_X1_leadsToLoss (x0 x1 x2 x3 x4 x5 : Int) (μ : Mem) : Option (Int × Mem) :=
  gd (isK x1 3) (
  bn (f_X3_otherEnd x1 x4 x5 μ) fun r3 μ2 => (
  nm (jor x3 (jshl 1 x4)) fun v5 => (
  if nrm r3 = nrm (-1) then (
    some (0, μ2))
  else (
    if nrm v5 = nrm x3 then (
      some (0, μ2))
    else (
      if nrm (jand (jshr x2 x4) 1) = 0 then (
        some (0, μ2))
      else (
        if nrm v5 < 0 then (
          some (0, μ2))
        else (
          if nrm v5 < nrm 512 then (
            gd (0 ≤ nrm v5 ∧ nrm v5 < 512) (
            if nrm (jand (jshr (μ2 (x0 + 1) (nrm v5)) r3) 1) = 0 then (
              some (1, μ2))
            else (
              some (0, μ2))))
          else (
            some (0, μ2)))))))))
def f_X1_wonBehind_j88 (k6 : Int → Int → Int → Int → Int → Int → Mem → Option (Int × Mem)) (x0 x1 x2 x3 x4 x5 : Int) (μ : Mem) : Option (Int × Mem) :=
  k6 x0 x1 x2 x3 x4 (x5 + 1) μ
def f_X1_wonBehind_j55 (k6 : Int → Int → Int → Int → Int → Int → Mem → Option (Int × Mem)) (x0 x1 x2 x3 x4 x5 : Int) (μ : Mem) : Option (Int × Mem) :=
  gd (isK x1 3) (
  gd (0 ≤ nrm x5 ∧ nrm x5 < 9) (
  bn (f_X1_leadsToLoss x0 x1 x2 x3 x5 (μ (x1 + 2) (nrm x5)) μ) fun r4 μ3 => (
  if nrm r4 = 0 then (
    f_X1_wonBehind_j88 k6 x0 x1 x2 x3 x4 x5 μ3)
  else (
    gd (0 ≤ nrm x5 ∧ nrm x5 < 9) (
    nm (jor x4 (jshl 1 (μ3 (x1 + 2) (nrm x5)))) fun v8 => (
    f_X1_wonBehind_j88 k6 x0 x1 x2 x3 v8 x5 μ3))))))
def f_X1_wonBehind_w6 : Nat → Int → Int → Int → Int → Int → Int → Mem → Option (Int × Mem)
  | 0, _, _, _, _, _, _, _ => none
  | n + 1, x0, x1, x2, x3, x4, x5, μ =>
  gd (isK x1 3) (
  if nrm (μ x1 1) ≤ nrm x5 then (
    some (x4, μ))
  else (
    if nrm 9 ≤ nrm x5 then (
      some (x4, μ))
    else (
      gd (0 ≤ nrm x5 ∧ nrm x5 < 9) (
      bn (f_X1_leadsToLoss x0 x1 x2 x3 x5 (μ (x1 + 1) (nrm x5)) μ) fun r6 μ5 => (
      if nrm r6 = 0 then (
        f_X1_wonBehind_j55 (f_X1_wonBehind_w6 n) x0 x1 x2 x3 x4 x5 μ5)
      else (
        gd (0 ≤ nrm x5 ∧ nrm x5 < 9) (
        nm (jor x4 (jshl 1 (μ5 (x1 + 1) (nrm x5)))) fun v10 => (
        f_X1_wonBehind_j55 (f_X1_wonBehind_w6 n) x0 x1 x2 x3 v10 x5 μ5))))))))
def f_X1_wonBehind (x0 x1 x2 x3 : Int) (μ : Mem) : Option (Int × Mem) :=
  f_X1_wonBehind_w6 FU x0 x1 x2 x3 0 0 μ
def f_X1_firstWinning_w59 : Nat → Int → Int → Int → Int → Int → Mem → Option (Int × Mem)
  | 0, _, _, _, _, _, _ => none
  | n + 1, x0, x1, x2, x3, x4, μ =>
  gd (isK x2 3) (
  if nrm (μ x2 1) ≤ nrm x4 then (
    some ((-1), μ))
  else (
    gd (isK x1 0) (
    bn (f_X1_leadsToLoss x0 x2 x3 0 x4 (μ x1 1) μ) fun r5 μ4 => (
    if nrm r5 = 0 then (
      f_X1_firstWinning_w59 n x0 x1 x2 x3 (x4 + 1) μ4)
    else (
      some (x4, μ4))))))
def f_X1_firstWinning_j50 (k20 : Int → Int → Int → Int → Int → Mem → Option (Int × Mem)) (x0 x1 x2 x3 x4 : Int) (μ : Mem) : Option (Int × Mem) :=
  k20 x0 x1 x2 x3 (x4 + (-1)) μ
def f_X1_firstWinning_w20 : Nat → Int → Int → Int → Int → Int → Mem → Option (Int × Mem)
  | 0, _, _, _, _, _, _ => none
  | n + 1, x0, x1, x2, x3, x4, μ =>
  if nrm x4 < 0 then (
    f_X1_firstWinning_w59 FU x0 x1 x2 x3 0 μ)
  else (
    if nrm 512 ≤ nrm x4 then (
      f_X1_firstWinning_j50 (f_X1_firstWinning_w20 n) x0 x1 x2 x3 x4 μ)
    else (
      bn (f_X1_wonBehind x0 x2 x3 x4 μ) fun r4 μ3 => (
      gd (0 ≤ nrm x4 ∧ nrm x4 < 512) (
      nm (ms μ3 (x0 + 1) (nrm x4) r4) fun μ6 => (
      f_X1_firstWinning_j50 (f_X1_firstWinning_w20 n) x0 x1 x2 x3 x4 μ6)))))
def f_X1_firstWinning (x0 x1 : Int) (μ : Mem) : Option (Int × Mem) :=
  gd (isK x1 0) (
  bn (f_X0_openLanes x1 μ) fun r3 μ2 => (
  gd (isK (μ x1 0) 3) (
  nm ((jshl 1 (μ2 (μ x1 0) 1)) - 1) fun v6 => (
  f_X1_firstWinning_w20 FU x0 x1 (μ x1 0) r3 v6 μ2))))
def f_X2_kept (x0 : Int) (μ : Mem) : Option (Int × Mem) :=
  some ((μ x0 2), μ)
def f_X2_forgetAll (x0 : Int) (μ : Mem) : Option (Int × Mem) :=
  nm (ms μ x0 2 0) fun μ1 => (
  some (0, μ1))
def f_X2_keep (x0 x1 : Int) (μ : Mem) : Option (Int × Mem) :=
  if nrm (μ x0 1) < 0 then (
    some (0, μ))
  else (
    if nrm 10 ≤ nrm (μ x0 1) then (
      some (0, μ))
    else (
      gd (0 ≤ nrm (μ x0 1) ∧ nrm (μ x0 1) < 10) (
      if ((x0 + 1) + 1 + 2 * (nrm (μ x0 1))) < 0 then (
        some (0, μ))
      else (
        gd (0 ≤ nrm (μ x0 1) ∧ nrm (μ x0 1) < 10) (
        bn (f_X0_takeOver ((x0 + 1) + 1 + 2 * (nrm (μ x0 1))) x1 μ) fun r7 μ6 => (
        nm (ms μ6 x0 1 (jrem ((μ6 x0 1) + 1) 10)) fun μ9 => (
        bn (f_J9_min_7cf53 10 ((μ9 x0 2) + 1) μ9) fun r12 μ11 => (
        nm (ms μ11 x0 2 r12) fun μ14 => (
        some (0, μ14))))))))))
def f_J9_floorMod_7cf53 (x0 x1 : Int) (μ : Mem) : Option (Int × Mem) :=
  gd (nrm x1 ≠ 0) (
  nm (jrem x0 x1) fun v2 => (
  if 0 ≤ nrm (jxor x0 x1) then (
    some (v2, μ))
  else (
    if nrm v2 = 0 then (
      some (v2, μ))
    else (
      some ((v2 + x1), μ)))))
def f_X2_bringBack (x0 x1 x2 : Int) (μ : Mem) : Option (Int × Mem) :=
  if nrm x1 < nrm 1 then (
    some (0, μ))
  else (
    if nrm x1 ≤ nrm (μ x0 2) then (
      bn (f_J9_floorMod_7cf53 ((μ x0 1) - x1) 10 μ) fun r4 μ3 => (
      if nrm r4 < 0 then (
        some (0, μ3))
      else (
        if nrm 10 ≤ nrm r4 then (
          some (0, μ3))
        else (
          gd (0 ≤ nrm r4 ∧ nrm r4 < 10) (
          if ((x0 + 1) + 1 + 2 * (nrm r4)) < 0 then (
            some (0, μ3))
          else (
            nm (ms μ3 x0 1 r4) fun μ10 => (
            nm (ms μ10 x0 2 ((μ10 x0 2) - x1)) fun μ12 => (
            gd (0 ≤ nrm r4 ∧ nrm r4 < 10) (
            gd (isK x2 0) (
            bn (f_X0_takeOver x2 ((x0 + 1) + 1 + 2 * (nrm r4)) μ12) fun r17 μ16 => (
            some (0, μ16))))))))))))
    else (
      some (0, μ)))
def f_J7_fill_53178_w5 : Nat → Int → Int → Int → Int → Mem → Option (Int × Mem)
  | 0, _, _, _, _, _ => none
  | n + 1, x0, x1, x2, x3, μ =>
  if nrm x3 ≤ nrm x2 then (
    some (0, μ))
  else (
    gd (isA x0 1 ∧ 0 ≤ nrm x2 ∧ nrm x2 < aln x0) (
    nm (ms μ x0 (nrm x2) x1) fun μ2 => (
    f_J7_fill_53178_w5 n x0 x1 (x2 + 1) x3 μ2)))
def f_J7_fill_53178 (x0 x1 : Int) (μ : Mem) : Option (Int × Mem) :=
  gd (isA x0 1) (
  nm (aln x0) fun v2 => (
  f_J7_fill_53178_w5 FU x0 x1 0 v2 μ))
def f_X4_makeEmpty (x0 : Int) (μ : Mem) : Option (Int × Mem) :=
  nm (ms μ x0 1 0) fun μ1 => (
  bn (f_J7_fill_53178 (x0 + 2) 0 μ1) fun r4 μ3 => (
  bn (f_J7_fill_53178 (x0 + 3) 0 μ3) fun r7 μ6 => (
  some (0, μ6))))
def f_X3_makeEmpty (x0 : Int) (μ : Mem) : Option (Int × Mem) :=
  nm (ms μ x0 0 1) fun μ1 => (
  nm (ms μ1 x0 1 0) fun μ3 => (
  nm (ms μ3 x0 2 0) fun μ5 => (
  nm (ms μ5 x0 3 0) fun μ7 => (
  nm (ms μ7 x0 4 0) fun μ9 => (
  nm (ms μ9 x0 5 0) fun μ11 => (
  nm (ms μ11 x0 6 0) fun μ13 => (
  nm (ms μ13 x0 7 0) fun μ15 => (
  bn (f_J7_fill_53178 (x0 + 3) 0 μ15) fun r18 μ17 => (
  bn (f_J7_fill_53178 (x0 + 4) 0 μ17) fun r21 μ20 => (
  bn (f_J7_fill_53178 (x0 + 5) 0 μ20) fun r24 μ23 => (
  bn (f_X4_makeEmpty (x0 + 7) μ23) fun r27 μ26 => (
  some (0, μ26)))))))))))))
def f_X3_hasPlace (x0 x1 : Int) (μ : Mem) : Option (Int × Mem) :=
  if nrm x1 < 0 then (
    some (0, μ))
  else (
    if nrm (μ x0 0) ≤ nrm x1 then (
      some (0, μ))
    else (
      if nrm 7 ≤ nrm x1 then (
        some (0, μ))
      else (
        some (1, μ))))
def f_X3_comingFrom_j84 (k7 : Int → Int → Int → Int → Mem → Option (Int × Mem)) (x0 x2 x3 x4 x5 : Int) (μ : Mem) : Option (Int × Mem) :=
  if nrm x3 = nrm x5 then (
    some (x3, μ))
  else (
    k7 x0 x2 x3 (x4 + 1) μ)
def f_X3_comingFrom_j78 (k7 : Int → Int → Int → Int → Mem → Option (Int × Mem)) (k20 : Int → Int → Int → Int → Int → Int → Mem → Option (Int × Mem)) (x0 x2 x3 x4 x5 x6 : Int) (μ : Mem) : Option (Int × Mem) :=
  k20 x0 x2 x3 x4 x5 (x6 + 1) μ
def f_X3_comingFrom_w20 (k7 : Int → Int → Int → Int → Mem → Option (Int × Mem)) : Nat → Int → Int → Int → Int → Int → Int → Mem → Option (Int × Mem)
  | 0, _, _, _, _, _, _, _ => none
  | n + 1, x0, x2, x3, x4, x5, x6, μ =>
  if nrm (μ x0 1) ≤ nrm x6 then (
    f_X3_comingFrom_j84 k7 x0 x2 x3 x4 x5 μ)
  else (
    if nrm 9 ≤ nrm x6 then (
      f_X3_comingFrom_j84 k7 x0 x2 x3 x4 x5 μ)
    else (
      gd (0 ≤ nrm x6 ∧ nrm x6 < 9) (
      gd (0 ≤ nrm x6 ∧ nrm x6 < 9) (
      nm (jor (jshl 1 (μ (x0 + 1) (nrm x6))) (jshl 1 (μ (x0 + 2) (nrm x6)))) fun v5 => (
      if nrm (jand (jshr x2 x6) 1) = 0 then (
        f_X3_comingFrom_j78 k7 (f_X3_comingFrom_w20 k7 n) x0 x2 x3 x4 x5 x6 μ)
      else (
        if nrm (jand x3 v5) = 0 then (
          f_X3_comingFrom_j78 k7 (f_X3_comingFrom_w20 k7 n) x0 x2 x3 x4 x5 x6 μ)
        else (
          nm (jor x3 v5) fun v9 => (
          f_X3_comingFrom_j78 k7 (f_X3_comingFrom_w20 k7 n) x0 x2 v9 x4 x5 x6 μ))))))))
def f_X3_comingFrom_w7 : Nat → Int → Int → Int → Int → Mem → Option (Int × Mem)
  | 0, _, _, _, _, _ => none
  | n + 1, x0, x2, x3, x4, μ =>
  if nrm 7 ≤ nrm x4 then (
    some (x3, μ))
  else (
    f_X3_comingFrom_w20 (f_X3_comingFrom_w7 n) FU x0 x2 x3 x4 x3 0 μ)
def f_X3_comingFrom (x0 x1 x2 : Int) (μ : Mem) : Option (Int × Mem) :=
  nm (jshl 1 x1) fun v1 => (
  f_X3_comingFrom_w7 FU x0 x2 v1 0 μ)
def f_X3_backInTheEnd_w4 : Nat → Int → Int → Int → Mem → Option (Int × Mem)
  | 0, _, _, _, _ => none
  | n + 1, x0, x2, x3, μ =>
  if nrm 8 ≤ nrm x3 then (
    some (x2, μ))
  else (
    bn (f_X3_backBehindSeason x0 x2 μ) fun r3 μ2 => (
    f_X3_backInTheEnd_w4 n x0 r3 (x3 + 1) μ2))
def f_X3_backInTheEnd (x0 x1 : Int) (μ : Mem) : Option (Int × Mem) :=
  f_X3_backInTheEnd_w4 FU x0 x1 0 μ
def f_X4_stepsNow (x0 : Int) (μ : Mem) : Option (Int × Mem) :=
  some ((μ x0 1), μ)
def f_X4_addStep (x0 x1 x2 : Int) (μ : Mem) : Option (Int × Mem) :=
  if nrm (μ x0 1) < 0 then (
    some (0, μ))
  else (
    if nrm 900 ≤ nrm (μ x0 1) then (
      some (0, μ))
    else (
      gd (0 ≤ nrm (μ x0 1) ∧ nrm (μ x0 1) < 900) (
      nm (ms μ (x0 + 1) (nrm (μ x0 1)) ((x1 * 1000) + x2)) fun μ3 => (
      nm (ms μ3 x0 1 ((μ3 x0 1) + 1)) fun μ6 => (
      some (0, μ6))))))
def f_X4_enact (x0 x1 x2 : Int) (μ : Mem) : Option (Int × Mem) :=
  if nrm x1 < 0 then (
    some (0, μ))
  else (
    if nrm 2 ≤ nrm x1 then (
      some (0, μ))
    else (
      gd (0 ≤ nrm x1 ∧ nrm x1 < 2) (
      nm (ms μ (x0 + 2) (nrm x1) x2) fun μ3 => (
      gd (0 ≤ nrm x1 ∧ nrm x1 < 2) (
      nm (ms μ3 (x0 + 3) (nrm x1) (μ3 x0 1)) fun μ6 => (
      some (0, μ6)))))))
def f_X5_aboveAt (x0 x1 : Int) (μ : Mem) : Option (Int × Mem) :=
  if nrm x1 < 0 then (
    some (0, μ))
  else (
    if nrm x1 < nrm 7 then (
      gd (isK (μ x0 0) 10007) (
      gd (0 ≤ nrm x1 ∧ nrm x1 < 7) (
      some ((μ (μ x0 0) (nrm x1)), μ))))
    else (
      some (0, μ)))
def f_X5_belowAll (x0 : Int) (μ : Mem) : Option (Int × Mem) :=
  some ((μ x0 2), μ)
def f_X5_putWhole (x0 x1 : Int) (μ : Mem) : Option (Int × Mem) :=
  if nrm x1 < 0 then (
    some (0, μ))
  else (
    if nrm 7 ≤ nrm x1 then (
      some (0, μ))
    else (
      gd (isK (μ x0 0) 10007) (
      gd (0 ≤ nrm x1 ∧ nrm x1 < 7) (
      nm (ms μ (μ x0 0) (nrm x1) (μ x0 2)) fun μ3 => (
      some (0, μ3))))))
def f_X5_throughTo (x0 x1 x2 x3 : Int) (μ : Mem) : Option (Int × Mem) :=
  gd (isK x1 3) (
  bn (f_X3_hasLane x1 x2 μ) fun r3 μ2 => (
  if nrm r3 = 0 then (
    some (0, μ2))
  else (
    if nrm x3 < 0 then (
      some (0, μ2))
    else (
      if nrm x3 < nrm 7 then (
        gd (0 ≤ nrm x2 ∧ nrm x2 < 9) (
        gd (isK (μ2 x0 1) 10007) (
        gd (0 ≤ nrm x3 ∧ nrm x3 < 7) (
        some (((10 - (μ2 (x1 + 5) (nrm x2))) * (μ2 (μ2 x0 1) (nrm x3))), μ2)))))
      else (
        some (0, μ2))))))
def f_X5_raise (x0 x1 x2 : Int) (μ : Mem) : Option (Int × Mem) :=
  if nrm x1 < 0 then (
    some (0, μ))
  else (
    if nrm 7 ≤ nrm x1 then (
      some (0, μ))
    else (
      gd (isK (μ x0 0) 10007) (
      gd (0 ≤ nrm x1 ∧ nrm x1 < 7) (
      bn (f_J9_max_7cf53 (μ (μ x0 0) (nrm x1)) x2 μ) fun r6 μ5 => (
      gd (0 ≤ nrm x1 ∧ nrm x1 < 7) (
      nm (ms μ5 (μ x0 0) (nrm x1) r6) fun μ8 => (
      some (0, μ8))))))))
def f_X5_weigh_j166 (k33 : Int → Int → Int → Int → Int → Int → Mem → Option (Int × Mem)) (x0 x2 x3 x4 x5 x6 : Int) (μ : Mem) : Option (Int × Mem) :=
  nm (ms μ x0 2 ((μ x0 2) * 10)) fun μ1 => (
  bn (f_X5_putWhole x0 x2 μ1) fun r4 μ3 => (
  k33 x0 x2 x3 x4 x5 (x6 + 1) μ3))
def f_X5_weigh_j160 (k33 : Int → Int → Int → Int → Int → Int → Mem → Option (Int × Mem)) (k77 : Int → Int → Int → Int → Int → Int → Int → Mem → Option (Int × Mem)) (x0 x2 x3 x4 x5 x6 x8 : Int) (μ : Mem) : Option (Int × Mem) :=
  k77 x0 x2 x3 x4 x5 x6 (x8 + 1) μ
def f_X5_weigh_w77 (k33 : Int → Int → Int → Int → Int → Int → Mem → Option (Int × Mem)) : Nat → Int → Int → Int → Int → Int → Int → Int → Mem → Option (Int × Mem)
  | 0, _, _, _, _, _, _, _, _ => none
  | n + 1, x0, x2, x3, x4, x5, x6, x8, μ =>
  gd (isK x4 3) (
  if nrm (μ x4 1) ≤ nrm x8 then (
    f_X5_weigh_j166 k33 x0 x2 x3 x4 x5 x6 μ)
  else (
    if nrm 9 ≤ nrm x8 then (
      f_X5_weigh_j166 k33 x0 x2 x3 x4 x5 x6 μ)
    else (
      if nrm (jand (jshr x5 x8) 1) = 0 then (
        f_X5_weigh_j160 k33 (f_X5_weigh_w77 k33 n) x0 x2 x3 x4 x5 x6 x8 μ)
      else (
        gd (0 ≤ nrm x8 ∧ nrm x8 < 9) (
        gd (0 ≤ nrm x8 ∧ nrm x8 < 9) (
        bn (f_X5_throughTo x0 x4 x8 (μ (x4 + 2) (nrm x8)) μ) fun r8 μ7 => (
        bn (f_X5_raise x0 (μ (x4 + 1) (nrm x8)) r8 μ7) fun r11 μ10 => (
        gd (0 ≤ nrm x8 ∧ nrm x8 < 9) (
        gd (0 ≤ nrm x8 ∧ nrm x8 < 9) (
        bn (f_X5_throughTo x0 x4 x8 (μ10 (x4 + 1) (nrm x8)) μ10) fun r16 μ15 => (
        bn (f_X5_raise x0 (μ10 (x4 + 2) (nrm x8)) r16 μ15) fun r19 μ18 => (
        f_X5_weigh_j160 k33 (f_X5_weigh_w77 k33 n) x0 x2 x3 x4 x5 x6 x8 μ18))))))))))))
def f_X5_weigh_w33 : Nat → Int → Int → Int → Int → Int → Int → Mem → Option (Int × Mem)
  | 0, _, _, _, _, _, _, _ => none
  | n + 1, x0, x2, x3, x4, x5, x6, μ =>
  if nrm x3 ≤ nrm x6 then (
    some (0, μ))
  else (
    if nrm 7 ≤ nrm x6 then (
      some (0, μ))
    else (
      nm (ms μ x0 1 (μ x0 0)) fun μ3 => (
      nm (ms μ3 x0 0 (μ x0 1)) fun μ5 => (
      bn (f_J7_fill_53178 (μ5 x0 0) 0 μ5) fun r8 μ7 => (
      f_X5_weigh_w77 (f_X5_weigh_w33 n) FU x0 x2 x3 x4 x5 x6 0 μ7)))))
def f_X5_weigh (x0 x1 x2 x3 : Int) (μ : Mem) : Option (Int × Mem) :=
  gd (isK x1 0) (
  bn (f_X0_openLanes x1 μ) fun r3 μ2 => (
  bn (f_J7_fill_53178 (μ2 x0 0) 0 μ2) fun r6 μ5 => (
  nm (ms μ5 x0 2 1) fun μ8 => (
  bn (f_X5_putWhole x0 x2 μ8) fun r11 μ10 => (
  f_X5_weigh_w33 FU x0 x2 x3 (μ x1 0) r3 0 μ10)))))
def f_X5_firstLikeliest_j88 (k27 : Int → Int → Int → Int → Mem → Option (Int × Mem)) (x0 x1 x4 x5 : Int) (μ : Mem) : Option (Int × Mem) :=
  k27 x0 x1 x4 (x5 + 1) μ
def f_X5_firstLikeliest_w27 : Nat → Int → Int → Int → Int → Mem → Option (Int × Mem)
  | 0, _, _, _, _, _ => none
  | n + 1, x0, x1, x4, x5, μ =>
  if nrm x4 ≤ 0 then (
    some ((-1), μ))
  else (
    gd (isK x1 0) (
    gd (isK (μ x1 0) 3) (
    if nrm (μ (μ x1 0) 1) ≤ nrm x5 then (
      some ((-1), μ))
    else (
      bn (f_X3_otherEnd (μ x1 0) x5 (μ x1 1) μ) fun r6 μ5 => (
      bn (f_X0_isOpen x1 x5 μ5) fun r9 μ8 => (
      if nrm r9 = 0 then (
        f_X5_firstLikeliest_j88 (f_X5_firstLikeliest_w27 n) x0 x1 x4 x5 μ8)
      else (
        bn (f_X5_throughTo x0 (μ8 x1 0) x5 r6 μ8) fun r13 μ12 => (
        if nrm r13 = nrm x4 then (
          some (x5, μ12))
        else (
          f_X5_firstLikeliest_j88 (f_X5_firstLikeliest_w27 n) x0 x1 x4 x5 μ12)))))))))
def f_X5_firstLikeliest (x0 x1 x2 x3 : Int) (μ : Mem) : Option (Int × Mem) :=
  if nrm 1 ≤ nrm x3 then (
    bn (f_X5_weigh x0 x1 x2 x3 μ) fun r3 μ2 => (
    gd (isK x1 0) (
    bn (f_X5_aboveAt x0 (μ2 x1 1) μ2) fun r7 μ6 => (
    f_X5_firstLikeliest_w27 FU x0 x1 r7 0 μ6))))
  else (
    some ((-1), μ))
def f_X5_commonOf_w7 : Nat → Int → Int → Int → Mem → Option (Int × Mem)
  | 0, _, _, _, _ => none
  | n + 1, x2, x3, x4, μ =>
  if nrm 64 ≤ nrm x4 then (
    some (x2, μ))
  else (
    if nrm x3 = 0 then (
      some (x2, μ))
    else (
      gd (nrm x3 ≠ 0) (
      nm (jrem x2 x3) fun v4 => (
      f_X5_commonOf_w7 n x3 v4 (x4 + 1) μ))))
def f_X5_commonOf (x0 x1 : Int) (μ : Mem) : Option (Int × Mem) :=
  f_X5_commonOf_w7 FU x0 x1 0 μ
def f_X6_fillingsIn (x0 : Int) (μ : Mem) : Option (Int × Mem) :=
  some ((jdiv x0 16), μ)
def f_X6_lanesIn (x0 : Int) (μ : Mem) : Option (Int × Mem) :=
  some ((jrem x0 16), μ)
def f_X6_weightOf (x0 x1 : Int) (μ : Mem) : Option (Int × Mem) :=
  if nrm x1 < 0 then (
    some ((-1), μ))
  else (
    if nrm x1 < nrm 9 then (
      gd (0 ≤ nrm x1 ∧ nrm x1 < 9) (
      some ((μ (x0 + 1) (nrm x1)), μ)))
    else (
      some ((-1), μ)))
def f_X6_farFrom (x0 x1 : Int) (μ : Mem) : Option (Int × Mem) :=
  if nrm x1 < 0 then (
    some ((-1), μ))
  else (
    if nrm x1 < nrm 7 then (
      gd (0 ≤ nrm x1 ∧ nrm x1 < 7) (
      some ((μ (x0 + 2) (nrm x1)), μ)))
    else (
      some ((-1), μ)))
def f_X6_relax_j45 (x0 x1 x3 x4 : Int) (μ : Mem) : Option (Int × Mem) :=
  gd (0 ≤ nrm x1 ∧ nrm x1 < 7) (
  nm (ms μ (x0 + 2) (nrm x1) (x4 + x3)) fun μ1 => (
  some (0, μ1)))
def f_X6_relax (x0 x1 x2 x3 : Int) (μ : Mem) : Option (Int × Mem) :=
  bn (f_X6_farFrom x0 x2 μ) fun r2 μ1 => (
  bn (f_X6_farFrom x0 x1 μ1) fun r5 μ4 => (
  if nrm r2 = nrm (-1) then (
    some (0, μ4))
  else (
    if nrm x1 < 0 then (
      some (0, μ4))
    else (
      if nrm 7 ≤ nrm x1 then (
        some (0, μ4))
      else (
        if nrm r5 = nrm (-1) then (
          f_X6_relax_j45 x0 x1 x3 r2 μ4)
        else (
          if nrm r5 ≤ nrm (r2 + x3) then (
            some (0, μ4))
          else (
            f_X6_relax_j45 x0 x1 x3 r2 μ4)))))))
def f_X6_measure_j119 (k28 : Int → Int → Int → Mem → Option (Int × Mem)) (x0 x1 x3 : Int) (μ : Mem) : Option (Int × Mem) :=
  k28 x0 x1 (x3 + 1) μ
def f_X6_measure_j113 (k28 : Int → Int → Int → Mem → Option (Int × Mem)) (k37 : Int → Int → Int → Int → Mem → Option (Int × Mem)) (x0 x1 x3 x4 : Int) (μ : Mem) : Option (Int × Mem) :=
  k37 x0 x1 x3 (x4 + 1) μ
def f_X6_measure_w37 (k28 : Int → Int → Int → Mem → Option (Int × Mem)) : Nat → Int → Int → Int → Int → Mem → Option (Int × Mem)
  | 0, _, _, _, _, _ => none
  | n + 1, x0, x1, x3, x4, μ =>
  gd (isK x1 3) (
  if nrm (μ x1 1) ≤ nrm x4 then (
    f_X6_measure_j119 k28 x0 x1 x3 μ)
  else (
    if nrm 9 ≤ nrm x4 then (
      f_X6_measure_j119 k28 x0 x1 x3 μ)
    else (
      bn (f_X6_weightOf x0 x4 μ) fun r5 μ4 => (
      if nrm r5 = nrm (-1) then (
        f_X6_measure_j113 k28 (f_X6_measure_w37 k28 n) x0 x1 x3 x4 μ4)
      else (
        gd (0 ≤ nrm x4 ∧ nrm x4 < 9) (
        gd (0 ≤ nrm x4 ∧ nrm x4 < 9) (
        gd (0 ≤ nrm x4 ∧ nrm x4 < 9) (
        bn (f_X6_relax x0 (μ4 (x1 + 1) (nrm x4)) (μ4 (x1 + 2) (nrm x4)) (μ4 (x0 + 1) (nrm x4)) μ4) fun r12 μ11 => (
        gd (0 ≤ nrm x4 ∧ nrm x4 < 9) (
        gd (0 ≤ nrm x4 ∧ nrm x4 < 9) (
        gd (0 ≤ nrm x4 ∧ nrm x4 < 9) (
        bn (f_X6_relax x0 (μ11 (x1 + 2) (nrm x4)) (μ11 (x1 + 1) (nrm x4)) (μ11 (x0 + 1) (nrm x4)) μ11) fun r18 μ17 => (
        f_X6_measure_j113 k28 (f_X6_measure_w37 k28 n) x0 x1 x3 x4 μ17)))))))))))))
def f_X6_measure_w28 : Nat → Int → Int → Int → Mem → Option (Int × Mem)
  | 0, _, _, _, _ => none
  | n + 1, x0, x1, x3, μ =>
  if nrm 7 ≤ nrm x3 then (
    some (0, μ))
  else (
    f_X6_measure_w37 (f_X6_measure_w28 n) FU x0 x1 x3 0 μ)
def f_X6_measure (x0 x1 x2 : Int) (μ : Mem) : Option (Int × Mem) :=
  bn (f_J7_fill_53178 (x0 + 2) (-1) μ) fun r2 μ1 => (
  if nrm x2 < 0 then (
    some (0, μ1))
  else (
    if nrm x2 < nrm 7 then (
      gd (0 ≤ nrm x2 ∧ nrm x2 < 7) (
      nm (ms μ1 (x0 + 2) (nrm x2) 0) fun μ6 => (
      f_X6_measure_w28 FU x0 x1 0 μ6)))
    else (
      some (0, μ1))))
def f_X6_measureOpen_j26 (k2 : Int → Int → Int → Int → Mem → Option (Int × Mem)) (x0 x1 x2 x3 s0 s1 s2 : Int) (μ : Mem) : Option (Int × Mem) :=
  gd (isA s0 1 ∧ 0 ≤ nrm s1 ∧ nrm s1 < aln s0) (
  nm (ms μ s0 (nrm s1) s2) fun μ1 => (
  k2 x0 x1 x2 (x3 + 1) μ1))
def f_X6_measureOpen_w2 : Nat → Int → Int → Int → Int → Mem → Option (Int × Mem)
  | 0, _, _, _, _, _ => none
  | n + 1, x0, x1, x2, x3, μ =>
  if nrm 9 ≤ nrm x3 then (
    gd (isK x1 0) (
    bn (f_X6_measure x0 (μ x1 0) x2 μ) fun r4 μ3 => (
    some (0, μ3))))
  else (
    gd (isK x1 0) (
    bn (f_X0_isOpen x1 x3 μ) fun r8 μ7 => (
    if nrm r8 = 0 then (
      f_X6_measureOpen_j26 (f_X6_measureOpen_w2 n) x0 x1 x2 x3 (x0 + 1) x3 (-1) μ7)
    else (
      f_X6_measureOpen_j26 (f_X6_measureOpen_w2 n) x0 x1 x2 x3 (x0 + 1) x3 1 μ7))))
def f_X6_measureOpen (x0 x1 x2 : Int) (μ : Mem) : Option (Int × Mem) :=
  f_X6_measureOpen_w2 FU x0 x1 x2 0 μ
def f_X6_weighFillings_j49 (k2 : Int → Int → Int → Mem → Option (Int × Mem)) (x0 x1 x2 s0 s1 s2 : Int) (μ : Mem) : Option (Int × Mem) :=
  gd (isA s0 1 ∧ 0 ≤ nrm s1 ∧ nrm s1 < aln s0) (
  nm (ms μ s0 (nrm s1) s2) fun μ1 => (
  k2 x0 x1 (x2 + 1) μ1))
def f_X6_weighFillings_j28 (k2 : Int → Int → Int → Mem → Option (Int × Mem)) (x0 x1 x2 s0 : Int) (μ : Mem) : Option (Int × Mem) :=
  if nrm s0 = nrm (-1) then (
    f_X6_weighFillings_j49 k2 x0 x1 x2 (x0 + 1) x2 (-1) μ)
  else (
    f_X6_weighFillings_j49 k2 x0 x1 x2 (x0 + 1) x2 ((s0 * 16) + 1) μ)
def f_X6_weighFillings_w2 : Nat → Int → Int → Int → Mem → Option (Int × Mem)
  | 0, _, _, _, _ => none
  | n + 1, x0, x1, x2, μ =>
  if nrm 9 ≤ nrm x2 then (
    some (0, μ))
  else (
    gd (isK x1 0) (
    gd (isK (μ x1 0) 3) (
    bn (f_X3_hasLane (μ x1 0) x2 μ) fun r5 μ4 => (
    if nrm r5 = 0 then (
      f_X6_weighFillings_j28 (f_X6_weighFillings_w2 n) x0 x1 x2 (-1) μ4)
    else (
      bn (f_X0_fillingsOf x1 x2 μ4) fun r9 μ8 => (
      f_X6_weighFillings_j28 (f_X6_weighFillings_w2 n) x0 x1 x2 r9 μ8))))))
def f_X6_weighFillings (x0 x1 : Int) (μ : Mem) : Option (Int × Mem) :=
  f_X6_weighFillings_w2 FU x0 x1 0 μ
def f_X6_measureFillings (x0 x1 x2 : Int) (μ : Mem) : Option (Int × Mem) :=
  bn (f_X6_weighFillings x0 x1 μ) fun r2 μ1 => (
  gd (isK x1 0) (
  bn (f_X6_measure x0 (μ1 x1 0) x2 μ1) fun r6 μ5 => (
  some (0, μ5))))
def f_X6_firstOnward_j67 (k9 : Int → Int → Int → Int → Int → Mem → Option (Int × Mem)) (x0 x1 x2 x3 x4 : Int) (μ : Mem) : Option (Int × Mem) :=
  k9 x0 x1 x2 x3 (x4 + 1) μ
def f_X6_firstOnward_w9 : Nat → Int → Int → Int → Int → Int → Mem → Option (Int × Mem)
  | 0, _, _, _, _, _, _ => none
  | n + 1, x0, x1, x2, x3, x4, μ =>
  if nrm x3 ≤ 0 then (
    some ((-1), μ))
  else (
    gd (isK x1 3) (
    if nrm (μ x1 1) ≤ nrm x4 then (
      some ((-1), μ))
    else (
      bn (f_X3_otherEnd x1 x4 x2 μ) fun r5 μ4 => (
      bn (f_X6_farFrom x0 r5 μ4) fun r8 μ7 => (
      bn (f_X6_weightOf x0 x4 μ7) fun r11 μ10 => (
      if nrm r8 = nrm (-1) then (
        f_X6_firstOnward_j67 (f_X6_firstOnward_w9 n) x0 x1 x2 x3 x4 μ10)
      else (
        if nrm r11 = nrm (-1) then (
          f_X6_firstOnward_j67 (f_X6_firstOnward_w9 n) x0 x1 x2 x3 x4 μ10)
        else (
          if nrm (r8 + r11) = nrm x3 then (
            some (x4, μ10))
          else (
            f_X6_firstOnward_j67 (f_X6_firstOnward_w9 n) x0 x1 x2 x3 x4 μ10)))))))))
def f_X6_firstOnward (x0 x1 x2 : Int) (μ : Mem) : Option (Int × Mem) :=
  bn (f_X6_farFrom x0 x2 μ) fun r2 μ1 => (
  f_X6_firstOnward_w9 FU x0 x1 x2 r2 0 μ1)
def f_X6_laneOnWay_w6 : Nat → Int → Int → Int → Int → Int → Mem → Option (Int × Mem)
  | 0, _, _, _, _, _, _ => none
  | n + 1, x0, x1, x3, x4, x5, μ =>
  if nrm 9 ≤ nrm x5 then (
    some ((-1), μ))
  else (
    bn (f_X6_firstOnward x0 x1 x4 μ) fun r3 μ2 => (
    if nrm r3 = nrm (-1) then (
      some (r3, μ2))
    else (
      if nrm x5 = nrm x3 then (
        some (r3, μ2))
      else (
        gd (isK x1 3) (
        bn (f_X3_otherEnd x1 r3 x4 μ2) fun r9 μ8 => (
        f_X6_laneOnWay_w6 n x0 x1 x3 r9 (x5 + 1) μ8))))))
def f_X6_laneOnWay (x0 x1 x2 x3 : Int) (μ : Mem) : Option (Int × Mem) :=
  f_X6_laneOnWay_w6 FU x0 x1 x3 x2 0 μ
def f_X6_weightOfAll_j44 (k5 : Int → Int → Int → Int → Int → Mem → Option (Int × Mem)) (x0 x1 x2 x3 x4 : Int) (μ : Mem) : Option (Int × Mem) :=
  k5 x0 x1 x2 x3 (x4 + 1) μ
def f_X6_weightOfAll_w5 : Nat → Int → Int → Int → Int → Int → Mem → Option (Int × Mem)
  | 0, _, _, _, _, _, _ => none
  | n + 1, x0, x1, x2, x3, x4, μ =>
  gd (isK x1 3) (
  if nrm (μ x1 1) ≤ nrm x4 then (
    some (x3, μ))
  else (
    if nrm (jand (jshr x2 x4) 1) = 0 then (
      f_X6_weightOfAll_j44 (f_X6_weightOfAll_w5 n) x0 x1 x2 x3 x4 μ)
    else (
      bn (f_X6_weightOf x0 x4 μ) fun r5 μ4 => (
      if nrm r5 = nrm (-1) then (
        some ((-1), μ4))
      else (
        nm (x3 + r5) fun v8 => (
        f_X6_weightOfAll_j44 (f_X6_weightOfAll_w5 n) x0 x1 x2 v8 x4 μ4))))))
def f_X6_weightOfAll (x0 x1 x2 : Int) (μ : Mem) : Option (Int × Mem) :=
  f_X6_weightOfAll_w5 FU x0 x1 x2 0 0 μ
def f_X6_leastJoining_j86 (k17 : Int → Int → Int → Int → Int → Int → Mem → Option (Int × Mem)) (x0 x1 x2 x3 x4 x5 : Int) (μ : Mem) : Option (Int × Mem) :=
  k17 x0 x1 x2 x3 x4 (x5 + 1) μ
def f_X6_leastJoining_j61 (k17 : Int → Int → Int → Int → Int → Int → Mem → Option (Int × Mem)) (x0 x1 x2 x3 x4 x5 x6 s0 : Int) (μ : Mem) : Option (Int × Mem) :=
  if nrm s0 = 0 then (
    f_X6_leastJoining_j86 k17 x0 x1 x2 x3 x4 x5 μ)
  else (
    gd (isK x1 3) (
    bn (f_X3_comingFrom x1 0 x5 μ) fun r4 μ3 => (
    if nrm r4 = nrm x2 then (
      f_X6_leastJoining_j86 k17 x0 x1 x2 x5 x6 x5 μ3)
    else (
      f_X6_leastJoining_j86 k17 x0 x1 x2 x3 x4 x5 μ3))))
def f_X6_leastJoining_j60 (k17 : Int → Int → Int → Int → Int → Int → Mem → Option (Int × Mem)) (x0 x1 x2 x3 x4 x5 x6 : Int) (μ : Mem) : Option (Int × Mem) :=
  f_X6_leastJoining_j61 k17 x0 x1 x2 x3 x4 x5 x6 0 μ
def f_X6_leastJoining_j56 (k17 : Int → Int → Int → Int → Int → Int → Mem → Option (Int × Mem)) (x0 x1 x2 x3 x4 x5 x6 : Int) (μ : Mem) : Option (Int × Mem) :=
  f_X6_leastJoining_j61 k17 x0 x1 x2 x3 x4 x5 x6 1 μ
def f_X6_leastJoining_w17 : Nat → Int → Int → Int → Int → Int → Int → Mem → Option (Int × Mem)
  | 0, _, _, _, _, _, _, _ => none
  | n + 1, x0, x1, x2, x3, x4, x5, μ =>
  gd (isK x1 3) (
  if nrm (jshl 1 (μ x1 1)) ≤ nrm x5 then (
    some (x3, μ))
  else (
    bn (f_X6_weightOfAll x0 x1 x5 μ) fun r4 μ3 => (
    if nrm r4 = nrm (-1) then (
      f_X6_leastJoining_j60 (f_X6_leastJoining_w17 n) x0 x1 x2 x3 x4 x5 r4 μ3)
    else (
      if nrm x4 = nrm (-1) then (
        f_X6_leastJoining_j56 (f_X6_leastJoining_w17 n) x0 x1 x2 x3 x4 x5 r4 μ3)
      else (
        if nrm x4 ≤ nrm r4 then (
          f_X6_leastJoining_j60 (f_X6_leastJoining_w17 n) x0 x1 x2 x3 x4 x5 r4 μ3)
        else (
          f_X6_leastJoining_j56 (f_X6_leastJoining_w17 n) x0 x1 x2 x3 x4 x5 r4 μ3))))))
def f_X6_leastJoining (x0 x1 : Int) (μ : Mem) : Option (Int × Mem) :=
  gd (isK x1 3) (
  nm ((jshl 1 (μ x1 0)) - 1) fun v2 => (
  f_X6_leastJoining_w17 FU x0 x1 v2 (-1) (-1) 0 μ))
def f_X9_byteAt (x0 x1 : Int) (μ : Mem) : Option (Int × Mem) :=
  if (μ x0 3) < 0 then (
    some ((-1), μ))
  else (
    if nrm x1 < 0 then (
      some ((-1), μ))
    else (
      if nrm (μ x0 4) ≤ nrm x1 then (
        some ((-1), μ))
      else (
        gd (isK (μ x0 3) 20900) (
        if nrm x1 < nrm 900 then (
          gd (0 ≤ nrm x1 ∧ nrm x1 < 900) (
          some ((jand (μ (μ x0 3) (nrm x1)) 255), μ)))
        else (
          some ((-1), μ))))))
def f_X9_isLetter (x0 : Int) (μ : Mem) : Option (Int × Mem) :=
  if nrm x0 < nrm 97 then (
    some (0, μ))
  else (
    if nrm 122 < nrm x0 then (
      some (0, μ))
    else (
      some (1, μ)))
def f_X9_isSame_w7 : Nat → Int → Int → Int → Int → Int → Mem → Option (Int × Mem)
  | 0, _, _, _, _, _, _ => none
  | n + 1, x0, x1, x2, x3, x4, μ =>
  if nrm x2 ≤ nrm x4 then (
    some (1, μ))
  else (
    if nrm 107 ≤ nrm x4 then (
      some (1, μ))
    else (
      gd (0 ≤ nrm x4 ∧ nrm x4 < 107) (
      bn (f_X9_byteAt x0 ((x3 + x4) - x1) μ) fun r5 μ4 => (
      if nrm (sch 0 (nrm x4)) = nrm r5 then (
        f_X9_isSame_w7 n x0 x1 x2 x3 (x4 + 1) μ4)
      else (
        some (0, μ4))))))
def f_X9_isSame (x0 x1 x2 x3 : Int) (μ : Mem) : Option (Int × Mem) :=
  bn (f_J9_max_7cf53 0 x1 μ) fun r2 μ1 => (
  f_X9_isSame_w7 FU x0 x1 x2 x3 r2 μ1)
def f_X9_keep (x0 x1 x2 x3 : Int) (μ : Mem) : Option (Int × Mem) :=
  if nrm (μ x0 6) < 0 then (
    some (0, μ))
  else (
    if nrm 901 ≤ nrm (μ x0 6) then (
      some (0, μ))
    else (
      gd (0 ≤ nrm (μ x0 6) ∧ nrm (μ x0 6) < 901) (
      nm (ms μ (x0 + 1) (nrm (μ x0 6)) (jor (jor (jshl x3 18) (jshl x2 8)) x1)) fun μ3 => (
      nm (ms μ3 x0 6 ((μ3 x0 6) + 1)) fun μ6 => (
      some (0, μ6))))))
def f_X9_takeWord_j99 (k42 : Int → Int → Int → Int → Int → Int → Int → Mem → Option (Int × Mem)) (x0 x1 x2 x3 x4 x5 x6 : Int) (μ : Mem) : Option (Int × Mem) :=
  k42 x0 x1 x2 x3 x4 x5 (x6 + 1) μ
def f_X9_takeWord_j90 (k42 : Int → Int → Int → Int → Int → Int → Int → Mem → Option (Int × Mem)) (x0 x1 x2 x3 x5 x6 : Int) (μ : Mem) : Option (Int × Mem) :=
  nm (x6 + 1) fun v1 => (
  f_X9_takeWord_j99 k42 x0 x1 x2 x3 v1 (x5 + 1) x6 μ)
def f_X9_takeWord_w42 : Nat → Int → Int → Int → Int → Int → Int → Int → Mem → Option (Int × Mem)
  | 0, _, _, _, _, _, _, _, _ => none
  | n + 1, x0, x1, x2, x3, x4, x5, x6, μ =>
  if nrm 107 ≤ nrm x6 then (
    bn (f_X9_keep x0 x3 x1 0 μ) fun r3 μ2 => (
    some (x2, μ2)))
  else (
    gd (0 ≤ nrm x6 ∧ nrm x6 < 107) (
    if nrm (sch 0 (nrm x6)) = nrm 32 then (
      if nrm (x6 - x4) = nrm (x2 - x1) then (
        bn (f_X9_isSame x0 x4 x6 x1 μ) fun r9 μ8 => (
        if nrm r9 = 0 then (
          f_X9_takeWord_j90 (f_X9_takeWord_w42 n) x0 x1 x2 x3 x5 x6 μ8)
        else (
          f_X9_takeWord_j90 (f_X9_takeWord_w42 n) x0 x1 x2 x5 x5 x6 μ8)))
      else (
        f_X9_takeWord_j90 (f_X9_takeWord_w42 n) x0 x1 x2 x3 x5 x6 μ))
    else (
      f_X9_takeWord_j99 (f_X9_takeWord_w42 n) x0 x1 x2 x3 x4 x5 x6 μ)))
def f_X9_takeWord_j29 (x0 x1 x2 : Int) (μ : Mem) : Option (Int × Mem) :=
  f_X9_takeWord_w42 FU x0 x1 x2 3 0 128 0 μ
def f_X9_takeWord_w4 : Nat → Int → Int → Int → Mem → Option (Int × Mem)
  | 0, _, _, _, _ => none
  | n + 1, x0, x1, x2, μ =>
  if nrm (μ x0 4) ≤ nrm x2 then (
    f_X9_takeWord_j29 x0 x1 x2 μ)
  else (
    bn (f_X9_byteAt x0 x2 μ) fun r3 μ2 => (
    bn (f_X9_isLetter r3 μ2) fun r6 μ5 => (
    if nrm r6 = 0 then (
      f_X9_takeWord_j29 x0 x1 x2 μ5)
    else (
      f_X9_takeWord_w4 n x0 x1 (x2 + 1) μ5))))
def f_X9_takeWord (x0 x1 : Int) (μ : Mem) : Option (Int × Mem) :=
  nm (x1 + 1) fun v1 => (
  f_X9_takeWord_w4 FU x0 x1 v1 μ)
def f_X9_isDigit (x0 : Int) (μ : Mem) : Option (Int × Mem) :=
  if nrm x0 < nrm 48 then (
    some (0, μ))
  else (
    if nrm 57 < nrm x0 then (
      some (0, μ))
    else (
      some (1, μ)))
def f_X9_takeDigits_j86 (x2 s0 s1 s2 s3 : Int) (μ : Mem) : Option (Int × Mem) :=
  gd (isK s0 9) (
  bn (f_X9_keep s0 s1 s2 s3 μ) fun r3 μ2 => (
  some (x2, μ2)))
def f_X9_takeDigits_j75 (x1 x2 x3 x4 s0 s1 : Int) (μ : Mem) : Option (Int × Mem) :=
  if nrm x4 = 0 then (
    f_X9_takeDigits_j86 x2 s0 s1 x1 0 μ)
  else (
    f_X9_takeDigits_j86 x2 s0 s1 x1 x3 μ)
def f_X9_takeDigits_j62 (x0 x1 x2 x3 s0 : Int) (μ : Mem) : Option (Int × Mem) :=
  if nrm s0 = 0 then (
    f_X9_takeDigits_j75 x1 x2 x3 s0 x0 1 μ)
  else (
    f_X9_takeDigits_j75 x1 x2 x3 s0 x0 2 μ)
def f_X9_takeDigits_j50 (x0 x1 x2 x3 : Int) (μ : Mem) : Option (Int × Mem) :=
  if nrm 3 < nrm (x2 - x1) then (
    f_X9_takeDigits_j62 x0 x1 x2 x3 0 μ)
  else (
    f_X9_takeDigits_j62 x0 x1 x2 x3 1 μ)
def f_X9_takeDigits_j44 (k4 : Int → Int → Int → Int → Mem → Option (Int × Mem)) (x0 x1 x2 x3 : Int) (μ : Mem) : Option (Int × Mem) :=
  k4 x0 x1 (x2 + 1) x3 μ
def f_X9_takeDigits_w4 : Nat → Int → Int → Int → Int → Mem → Option (Int × Mem)
  | 0, _, _, _, _, _ => none
  | n + 1, x0, x1, x2, x3, μ =>
  if nrm (μ x0 4) ≤ nrm x2 then (
    f_X9_takeDigits_j50 x0 x1 x2 x3 μ)
  else (
    bn (f_X9_byteAt x0 x2 μ) fun r3 μ2 => (
    bn (f_X9_isDigit r3 μ2) fun r6 μ5 => (
    if nrm r6 = 0 then (
      f_X9_takeDigits_j50 x0 x1 x2 x3 μ5)
    else (
      if nrm 3 ≤ nrm (x2 - x1) then (
        f_X9_takeDigits_j44 (f_X9_takeDigits_w4 n) x0 x1 x2 x3 μ5)
      else (
        bn (f_X9_byteAt x0 x2 μ5) fun r11 μ10 => (
        nm (((x3 * 10) + r11) - 48) fun v13 => (
        f_X9_takeDigits_j44 (f_X9_takeDigits_w4 n) x0 x1 x2 v13 μ10)))))))
def f_X9_takeDigits (x0 x1 : Int) (μ : Mem) : Option (Int × Mem) :=
  f_X9_takeDigits_w4 FU x0 x1 x1 0 μ
def f_X9_advance (x0 : Int) (μ : Mem) : Option (Int × Mem) :=
  if nrm (μ x0 7) < 0 then (
    some (0, μ))
  else (
    if nrm (μ x0 6) ≤ nrm (μ x0 7) then (
      some (0, μ))
    else (
      if nrm 901 ≤ nrm (μ x0 7) then (
        some (0, μ))
      else (
        gd (0 ≤ nrm (μ x0 7) ∧ nrm (μ x0 7) < 901) (
        nm (ms μ x0 0 (jand (μ (x0 + 1) (nrm (μ x0 7))) 255)) fun μ5 => (
        gd (0 ≤ nrm (μ5 x0 7) ∧ nrm (μ5 x0 7) < 901) (
        nm (ms μ5 x0 1 (jand (jshr (μ5 (x0 + 1) (nrm (μ5 x0 7))) 8) 1023)) fun μ8 => (
        gd (0 ≤ nrm (μ8 x0 7) ∧ nrm (μ8 x0 7) < 901) (
        nm (ms μ8 x0 2 (jshr (μ8 (x0 + 1) (nrm (μ8 x0 7))) 18)) fun μ11 => (
        nm (ms μ11 x0 7 ((μ11 x0 7) + 1)) fun μ13 => (
        some (0, μ13)))))))))))
def f_X9_begin_j142 (x0 : Int) (μ : Mem) : Option (Int × Mem) :=
  bn (f_X9_keep x0 0 (μ x0 4) 0 μ) fun r2 μ1 => (
  nm (ms μ1 x0 7 0) fun μ4 => (
  bn (f_X9_advance x0 μ4) fun r7 μ6 => (
  some (0, μ6))))
def f_X9_begin_j136 (k33 : Int → Int → Int → Mem → Option (Int × Mem)) (x0 x3 x4 : Int) (μ : Mem) : Option (Int × Mem) :=
  k33 x0 x3 (x4 + 1) μ
def f_X9_begin_j70 (k33 : Int → Int → Int → Mem → Option (Int × Mem)) (x0 x3 x4 : Int) (μ : Mem) : Option (Int × Mem) :=
  f_X9_begin_j136 k33 x0 (x3 + 1) x4 μ
def f_X9_begin_j128 (k33 : Int → Int → Int → Mem → Option (Int × Mem)) (x0 x3 x4 s0 s1 : Int) (μ : Mem) : Option (Int × Mem) :=
  gd (isK s0 9) (
  bn (f_X9_keep s0 s1 x3 0 μ) fun r3 μ2 => (
  f_X9_begin_j136 k33 x0 (x3 + 1) x4 μ2))
def f_X9_begin_w33 : Nat → Int → Int → Int → Mem → Option (Int × Mem)
  | 0, _, _, _, _ => none
  | n + 1, x0, x3, x4, μ =>
  if nrm 900 ≤ nrm x4 then (
    f_X9_begin_j142 x0 μ)
  else (
    if nrm (μ x0 4) ≤ nrm x3 then (
      f_X9_begin_j142 x0 μ)
    else (
      bn (f_X9_byteAt x0 x3 μ) fun r4 μ3 => (
      if nrm r4 = nrm 10 then (
        f_X9_begin_j70 (f_X9_begin_w33 n) x0 x3 x4 μ3)
      else (
        if nrm r4 = nrm 32 then (
          f_X9_begin_j70 (f_X9_begin_w33 n) x0 x3 x4 μ3)
        else (
          bn (f_X9_isLetter r4 μ3) fun r9 μ8 => (
          if nrm r9 = 0 then (
            bn (f_X9_isDigit r4 μ8) fun r13 μ12 => (
            if nrm r13 = 0 then (
              gd (0 ≤ nrm (jc r4) ∧ nrm (jc r4) < 256) (
              if nrm (six 1 (nrm (jc r4))) < 0 then (
                f_X9_begin_j128 (f_X9_begin_w33 n) x0 x3 x4 x0 1 μ12)
              else (
                f_X9_begin_j128 (f_X9_begin_w33 n) x0 x3 x4 x0 r4 μ12)))
            else (
              bn (f_X9_takeDigits x0 x3 μ12) fun r19 μ18 => (
              f_X9_begin_j136 (f_X9_begin_w33 n) x0 r19 x4 μ18))))
          else (
            bn (f_X9_takeWord x0 x3 μ8) fun r22 μ21 => (
            f_X9_begin_j136 (f_X9_begin_w33 n) x0 r22 x4 μ21))))))))
def f_X9_begin_j20 (x0 s0 s1 : Int) (μ : Mem) : Option (Int × Mem) :=
  gd (isK s0 9) (
  nm (ms μ s0 4 s1) fun μ2 => (
  nm (ms μ2 x0 6 0) fun μ4 => (
  f_X9_begin_w33 FU x0 0 0 μ4)))
def f_X9_begin (x0 x1 x2 : Int) (μ : Mem) : Option (Int × Mem) :=
  nm (ms μ x0 3 x1) fun μ1 => (
  if x1 < 0 then (
    f_X9_begin_j20 x0 x0 0 μ1)
  else (
    gd (isK x1 20900) (
    bn (f_J9_min_7cf53 x2 900 μ1) fun r6 μ5 => (
    f_X9_begin_j20 x0 x0 r6 μ5))))
def f_X7_refuse_j17 (x0 s0 s1 : Int) (μ : Mem) : Option (Int × Mem) :=
  gd (isK s0 7) (
  nm (ms μ s0 2 s1) fun μ2 => (
  nm (ms μ2 x0 3 (μ2 (x0 + 1) 1)) fun μ4 => (
  some (0, μ4))))
def f_X7_refuse (x0 x1 : Int) (μ : Mem) : Option (Int × Mem) :=
  if nrm (μ (x0 + 1) 0) = nrm 1 then (
    f_X7_refuse_j17 x0 x0 1 μ)
  else (
    f_X7_refuse_j17 x0 x0 x1 μ)
def f_X7_take (x0 x1 : Int) (μ : Mem) : Option (Int × Mem) :=
  if nrm (μ (x0 + 1) 0) = nrm x1 then (
    bn (f_X9_advance (x0 + 1) μ) fun r3 μ2 => (
    some (1, μ2)))
  else (
    bn (f_X7_refuse x0 2 μ) fun r6 μ5 => (
    gd (isB r6) (
    some (r6, μ5))))
def f_X7_takeNumber_j50 (x0 : Int) (μ : Mem) : Option (Int × Mem) :=
  bn (f_X7_refuse x0 3 μ) fun r2 μ1 => (
  gd (isB r2) (
  some (r2, μ1)))
def f_X7_takeNumber (x0 x1 x2 x3 : Int) (μ : Mem) : Option (Int × Mem) :=
  if nrm (μ (x0 + 1) 0) = nrm 2 then (
    if nrm (μ (x0 + 1) 2) < nrm x1 then (
      f_X7_takeNumber_j50 x0 μ)
    else (
      if nrm x2 < nrm (μ (x0 + 1) 2) then (
        f_X7_takeNumber_j50 x0 μ)
      else (
        if nrm (μ (x0 + 1) 2) = nrm x3 then (
          f_X7_takeNumber_j50 x0 μ)
        else (
          nm (ms μ x0 4 (μ (x0 + 1) 2)) fun μ5 => (
          bn (f_X9_advance (x0 + 1) μ5) fun r8 μ7 => (
          some (1, μ7)))))))
  else (
    bn (f_X7_refuse x0 2 μ) fun r11 μ10 => (
    gd (isB r11) (
    some (r11, μ10))))
def f_X7_takeLineEnd (x0 : Int) (μ : Mem) : Option (Int × Mem) :=
  bn (f_X7_take x0 59 μ) fun r2 μ1 => (
  if nrm r2 = 0 then (
    some (0, μ1))
  else (
    gd (isK (μ1 x0 1) 3) (
    nm (ms μ1 (μ1 x0 1) 3 ((μ1 (μ1 x0 1) 3) + 1)) fun μ6 => (
    some (1, μ6)))))
def f_X7_readLandLine (x0 : Int) (μ : Mem) : Option (Int × Mem) :=
  bn (f_X7_take x0 128 μ) fun r2 μ1 => (
  if nrm r2 = 0 then (
    some (0, μ1))
  else (
    bn (f_X7_take x0 129 μ1) fun r6 μ5 => (
    if nrm r6 = 0 then (
      some (0, μ5))
    else (
      bn (f_X7_takeNumber x0 1 7 (-1) μ5) fun r10 μ9 => (
      if nrm r10 = 0 then (
        some (0, μ9))
      else (
        gd (isK (μ9 x0 1) 3) (
        nm (ms μ9 (μ9 x0 1) 0 (μ9 x0 4)) fun μ14 => (
        bn (f_X7_takeLineEnd x0 μ14) fun r17 μ16 => (
        gd (isB r17) (
        some (r17, μ16)))))))))))
def f_X7_readFlag_j68 (x0 x1 x2 s0 : Int) (μ : Mem) : Option (Int × Mem) :=
  bn (f_X7_takeNumber x0 0 s0 (-1) μ) fun r2 μ1 => (
  if nrm r2 = 0 then (
    some (0, μ1))
  else (
    if nrm x2 = nrm 131 then (
      gd (isK (μ1 x0 1) 3) (
      gd (0 ≤ nrm x1 ∧ nrm x1 < 9) (
      nm (ms μ1 ((μ1 x0 1) + 3) (nrm x1) (μ1 x0 4)) fun μ16 => (
      some (1, μ16)))))
    else (
      if nrm x2 = nrm 132 then (
        gd (isK (μ1 x0 1) 3) (
        gd (0 ≤ nrm x1 ∧ nrm x1 < 9) (
        nm (ms μ1 ((μ1 x0 1) + 4) (nrm x1) (μ1 x0 4)) fun μ12 => (
        some (1, μ12)))))
      else (
        gd (isK (μ1 x0 1) 3) (
        gd (0 ≤ nrm x1 ∧ nrm x1 < 9) (
        nm (ms μ1 ((μ1 x0 1) + 5) (nrm x1) (μ1 x0 4)) fun μ8 => (
        some (1, μ8))))))))
def f_X7_readFlag_j35 (x0 x1 x2 : Int) (μ : Mem) : Option (Int × Mem) :=
  bn (f_X9_advance (x0 + 1) μ) fun r2 μ1 => (
  if nrm x2 = nrm 131 then (
    f_X7_readFlag_j68 x0 x1 x2 6 μ1)
  else (
    if nrm x2 = nrm 132 then (
      f_X7_readFlag_j68 x0 x1 x2 9 μ1)
    else (
      f_X7_readFlag_j68 x0 x1 x2 10 μ1)))
def f_X7_readFlag (x0 x1 : Int) (μ : Mem) : Option (Int × Mem) :=
  nm (μ (x0 + 1) 0) fun v1 => (
  if nrm v1 = nrm 131 then (
    f_X7_readFlag_j35 x0 x1 v1 μ)
  else (
    if nrm v1 = nrm 132 then (
      f_X7_readFlag_j35 x0 x1 v1 μ)
    else (
      if nrm v1 = nrm 133 then (
        f_X7_readFlag_j35 x0 x1 v1 μ)
      else (
        bn (f_X7_refuse x0 2 μ) fun r7 μ6 => (
        gd (isB r7) (
        some (r7, μ6)))))))
def f_X7_readLane_j18 (x0 : Int) (μ : Mem) : Option (Int × Mem) :=
  bn (f_X7_refuse x0 4 μ) fun r2 μ1 => (
  gd (isB r2) (
  some (r2, μ1)))
def f_X7_readLane_j137 (x0 : Int) (μ : Mem) : Option (Int × Mem) :=
  gd (isK (μ x0 1) 3) (
  nm (ms μ (μ x0 1) 1 ((μ (μ x0 1) 1) + 1)) fun μ2 => (
  bn (f_X7_takeLineEnd x0 μ2) fun r5 μ4 => (
  gd (isB r5) (
  some (r5, μ4)))))
def f_X7_readLane_w102 : Nat → Int → Int → Int → Mem → Option (Int × Mem)
  | 0, _, _, _, _ => none
  | n + 1, x0, x1, x2, μ =>
  if nrm 900 ≤ nrm x2 then (
    f_X7_readLane_j137 x0 μ)
  else (
    if nrm (μ (x0 + 1) 0) = nrm 59 then (
      f_X7_readLane_j137 x0 μ)
    else (
      bn (f_X7_readFlag x0 x1 μ) fun r4 μ3 => (
      if nrm r4 = 0 then (
        some (0, μ3))
      else (
        f_X7_readLane_w102 n x0 x1 (x2 + 1) μ3))))
def f_X7_readLane (x0 : Int) (μ : Mem) : Option (Int × Mem) :=
  gd (isK (μ x0 1) 3) (
  nm (μ (μ x0 1) 1) fun v2 => (
  if nrm v2 < 0 then (
    f_X7_readLane_j18 x0 μ)
  else (
    if nrm v2 < nrm 9 then (
      bn (f_X9_advance (x0 + 1) μ) fun r7 μ6 => (
      gd (isK (μ6 x0 1) 3) (
      bn (f_X7_takeNumber x0 0 ((μ6 (μ6 x0 1) 0) - 1) (-1) μ6) fun r11 μ10 => (
      if nrm r11 = 0 then (
        some (0, μ10))
      else (
        gd (isK (μ10 x0 1) 3) (
        gd (0 ≤ nrm v2 ∧ nrm v2 < 9) (
        nm (ms μ10 ((μ10 x0 1) + 1) (nrm v2) (μ10 x0 4)) fun μ15 => (
        gd (isK (μ15 x0 1) 3) (
        bn (f_X7_takeNumber x0 0 ((μ15 (μ15 x0 1) 0) - 1) (μ15 x0 4) μ15) fun r20 μ19 => (
        if nrm r20 = 0 then (
          some (0, μ19))
        else (
          gd (isK (μ19 x0 1) 3) (
          gd (0 ≤ nrm v2 ∧ nrm v2 < 9) (
          nm (ms μ19 ((μ19 x0 1) + 2) (nrm v2) (μ19 x0 4)) fun μ24 => (
          f_X7_readLane_w102 FU x0 v2 0 μ24))))))))))))))
    else (
      f_X7_readLane_j18 x0 μ))))
def f_X7_readCart (x0 : Int) (μ : Mem) : Option (Int × Mem) :=
  bn (f_X9_advance (x0 + 1) μ) fun r2 μ1 => (
  bn (f_X7_take x0 135 μ1) fun r5 μ4 => (
  if nrm r5 = 0 then (
    some (0, μ4))
  else (
    gd (isK (μ4 x0 1) 3) (
    bn (f_X7_takeNumber x0 0 ((μ4 (μ4 x0 1) 0) - 1) (-1) μ4) fun r10 μ9 => (
    if nrm r10 = 0 then (
      some (0, μ9))
    else (
      gd (isK (μ9 x0 1) 3) (
      nm (ms μ9 (μ9 x0 1) 4 (μ9 x0 4)) fun μ14 => (
      bn (f_X7_take x0 136 μ14) fun r17 μ16 => (
      if nrm r17 = 0 then (
        some (0, μ16))
      else (
        bn (f_X7_takeNumber x0 0 9 (-1) μ16) fun r21 μ20 => (
        if nrm r21 = 0 then (
          some (0, μ20))
        else (
          gd (isK (μ20 x0 1) 3) (
          nm (ms μ20 (μ20 x0 1) 5 (μ20 x0 4)) fun μ25 => (
          bn (f_X7_takeLineEnd x0 μ25) fun r28 μ27 => (
          gd (isB r28) (
          some (r28, μ27)))))))))))))))))
def f_X7_readPerson_j18 (x0 : Int) (μ : Mem) : Option (Int × Mem) :=
  bn (f_X7_refuse x0 4 μ) fun r2 μ1 => (
  gd (isB r2) (
  some (r2, μ1)))
def f_X7_readPerson_j117 (x0 : Int) (μ : Mem) : Option (Int × Mem) :=
  gd (isK (μ x0 1) 3) (
  nm (ms μ (μ x0 1) 2 ((μ (μ x0 1) 2) + 1)) fun μ2 => (
  bn (f_X7_takeLineEnd x0 μ2) fun r5 μ4 => (
  gd (isB r5) (
  some (r5, μ4)))))
def f_X7_readPerson_w69 : Nat → Int → Int → Int → Mem → Option (Int × Mem)
  | 0, _, _, _, _ => none
  | n + 1, x0, x1, x2, μ =>
  if nrm 900 ≤ nrm x2 then (
    f_X7_readPerson_j117 x0 μ)
  else (
    if nrm (μ (x0 + 1) 0) = nrm 139 then (
      gd (isK (μ x0 1) 3) (
      nm (ms μ (μ x0 1) 7 (jor (μ (μ x0 1) 7) (jshl 1 x1))) fun μ4 => (
      bn (f_X9_advance (x0 + 1) μ4) fun r7 μ6 => (
      f_X7_readPerson_w69 n x0 x1 (x2 + 1) μ6))))
    else (
      f_X7_readPerson_j117 x0 μ))
def f_X7_readPerson (x0 : Int) (μ : Mem) : Option (Int × Mem) :=
  gd (isK (μ x0 1) 3) (
  nm (μ (μ x0 1) 2) fun v2 => (
  if nrm v2 < 0 then (
    f_X7_readPerson_j18 x0 μ)
  else (
    if nrm v2 < nrm 8 then (
      bn (f_X9_advance (x0 + 1) μ) fun r7 μ6 => (
      bn (f_X7_take x0 138 μ6) fun r10 μ9 => (
      if nrm r10 = 0 then (
        some (0, μ9))
      else (
        bn (f_X7_takeNumber x0 0 8 (-1) μ9) fun r14 μ13 => (
        if nrm r14 = 0 then (
          some (0, μ13))
        else (
          gd (isK (μ13 x0 1) 3) (
          gd (0 ≤ nrm v2 ∧ nrm v2 < 8) (
          nm (ms μ13 ((μ13 x0 1) + 6) (nrm v2) (μ13 x0 4)) fun μ18 => (
          f_X7_readPerson_w69 FU x0 v2 0 μ18)))))))))
    else (
      f_X7_readPerson_j18 x0 μ))))
def f_X7_readRain (x0 : Int) (μ : Mem) : Option (Int × Mem) :=
  bn (f_X9_advance (x0 + 1) μ) fun r2 μ1 => (
  bn (f_X7_takeNumber x0 0 9 (-1) μ1) fun r5 μ4 => (
  if nrm r5 = 0 then (
    some (0, μ4))
  else (
    gd (isK (μ4 x0 1) 3) (
    nm (ms μ4 (μ4 x0 1) 6 (μ4 x0 4)) fun μ9 => (
    bn (f_X7_takeLineEnd x0 μ9) fun r12 μ11 => (
    gd (isB r12) (
    some (r12, μ11))))))))
def f_X7_addAtom (x0 x1 x2 : Int) (μ : Mem) : Option (Int × Mem) :=
  gd (isK (μ x0 1) 3) (
  bn (f_X4_addStep ((μ x0 1) + 7) x1 x2 μ) fun r3 μ2 => (
  bn (f_X9_advance (x0 + 1) μ2) fun r6 μ5 => (
  some (1, μ5))))
def f_X7_takeOpening (x0 x1 : Int) (μ : Mem) : Option (Int × Mem) :=
  if nrm x1 < nrm 6 then (
    bn (f_X9_advance (x0 + 1) μ) fun r3 μ2 => (
    some (1, μ2)))
  else (
    bn (f_X7_refuse x0 4 μ) fun r6 μ5 => (
    gd (isB r6) (
    some (r6, μ5))))
def b_X7_readAtom (rec : Nat → Int → Int → Mem → Option (Int × Mem)) (x0 x1 : Int) (μ : Mem) : Option (Int × Mem) :=
  if nrm (μ (x0 + 1) 0) = 2 then (
    bn (f_X7_addAtom x0 0 (μ (x0 + 1) 2) μ) fun r3 μ2 => (
    gd (isB r3) (
    some (r3, μ2))))
  else (
  if nrm (μ (x0 + 1) 0) = 40 then (
    bn (f_X7_takeOpening x0 x1 μ) fun r8 μ7 => (
    if nrm r8 = 0 then (
      some (0, μ7))
    else (
      bn (rec 3 x0 (x1 + 1) μ7) fun r12 μ11 => (
      if nrm r12 = 0 then (
        some (0, μ11))
      else (
        bn (f_X7_take x0 41 μ11) fun r16 μ15 => (
        if nrm r16 = 0 then (
          some (0, μ15))
        else (
          some (1, μ15))))))))
  else (
  if nrm (μ (x0 + 1) 0) = 130 then (
    bn (f_X7_addAtom x0 1 0 μ) fun r21 μ20 => (
    gd (isB r21) (
    some (r21, μ20))))
  else (
  if nrm (μ (x0 + 1) 0) = 131 then (
    bn (f_X7_addAtom x0 1 1 μ) fun r26 μ25 => (
    gd (isB r26) (
    some (r26, μ25))))
  else (
  if nrm (μ (x0 + 1) 0) = 132 then (
    bn (f_X7_addAtom x0 1 2 μ) fun r31 μ30 => (
    gd (isB r31) (
    some (r31, μ30))))
  else (
  if nrm (μ (x0 + 1) 0) = 136 then (
    bn (f_X7_addAtom x0 1 3 μ) fun r36 μ35 => (
    gd (isB r36) (
    some (r36, μ35))))
  else (
  if nrm (μ (x0 + 1) 0) = 139 then (
    if nrm (μ x0 5) = 0 then (
      bn (f_X7_refuse x0 2 μ) fun r42 μ41 => (
      gd (isB r42) (
      some (r42, μ41))))
    else (
      bn (f_X7_addAtom x0 1 5 μ) fun r46 μ45 => (
      gd (isB r46) (
      some (r46, μ45)))))
  else (
  if nrm (μ (x0 + 1) 0) = 140 then (
    bn (f_X7_addAtom x0 1 4 μ) fun r51 μ50 => (
    gd (isB r51) (
    some (r51, μ50))))
  else (
  if nrm (μ (x0 + 1) 0) = 143 then (
    bn (rec 2 x0 x1 μ) fun r56 μ55 => (
    gd (isB r56) (
    some (r56, μ55))))
  else (
  bn (f_X7_refuse x0 2 μ) fun r60 μ59 => (
  gd (isB r60) (
  some (r60, μ59))))))))))))
def f_X7_readBoth_w8 (rec : Nat → Int → Int → Mem → Option (Int × Mem)) : Nat → Int → Int → Int → Int → Mem → Option (Int × Mem)
  | 0, _, _, _, _, _ => none
  | n + 1, x0, x1, x2, x3, μ =>
  if nrm 900 ≤ nrm x3 then (
    gd (isB x2) (
    some (x2, μ)))
  else (
    if nrm x2 = 0 then (
      gd (isB x2) (
      some (x2, μ)))
    else (
      if nrm (μ (x0 + 1) 0) = nrm 148 then (
        bn (f_X9_advance (x0 + 1) μ) fun r8 μ7 => (
        bn (rec 6 x0 x1 μ7) fun r11 μ10 => (
        gd (isK (μ10 x0 1) 3) (
        bn (f_X4_addStep ((μ10 x0 1) + 7) 9 0 μ10) fun r15 μ14 => (
        f_X7_readBoth_w8 rec n x0 x1 r11 (x3 + 1) μ14)))))
      else (
        gd (isB x2) (
        some (x2, μ)))))
def b_X7_readBoth (rec : Nat → Int → Int → Mem → Option (Int × Mem)) (x0 x1 : Int) (μ : Mem) : Option (Int × Mem) :=
  bn (rec 6 x0 x1 μ) fun r2 μ1 => (
  f_X7_readBoth_w8 rec FU x0 x1 r2 0 μ1)
def f_X7_readIf_j73 (rec : Nat → Int → Int → Mem → Option (Int × Mem)) (x0 s0 : Int) (μ : Mem) : Option (Int × Mem) :=
  gd (isK (μ x0 1) 3) (
  bn (f_X4_addStep ((μ x0 1) + 7) 11 0 μ) fun r3 μ2 => (
  gd (isB s0) (
  some (s0, μ2))))
def f_X7_readIf_j72 (rec : Nat → Int → Int → Mem → Option (Int × Mem)) (x0 : Int) (μ : Mem) : Option (Int × Mem) :=
  f_X7_readIf_j73 rec x0 0 μ
def b_X7_readIf (rec : Nat → Int → Int → Mem → Option (Int × Mem)) (x0 x1 : Int) (μ : Mem) : Option (Int × Mem) :=
  bn (f_X7_takeOpening x0 x1 μ) fun r2 μ1 => (
  if nrm r2 = 0 then (
    f_X7_readIf_j72 rec x0 μ1)
  else (
    bn (rec 5 x0 (x1 + 1) μ1) fun r6 μ5 => (
    if nrm r6 = 0 then (
      f_X7_readIf_j72 rec x0 μ5)
    else (
      bn (f_X7_take x0 144 μ5) fun r10 μ9 => (
      if nrm r10 = 0 then (
        f_X7_readIf_j72 rec x0 μ9)
      else (
        bn (rec 3 x0 (x1 + 1) μ9) fun r14 μ13 => (
        if nrm r14 = 0 then (
          f_X7_readIf_j72 rec x0 μ13)
        else (
          bn (f_X7_take x0 145 μ13) fun r18 μ17 => (
          if nrm r18 = 0 then (
            f_X7_readIf_j72 rec x0 μ17)
          else (
            bn (rec 3 x0 (x1 + 1) μ17) fun r22 μ21 => (
            if nrm r22 = 0 then (
              f_X7_readIf_j72 rec x0 μ21)
            else (
              bn (f_X7_take x0 146 μ21) fun r26 μ25 => (
              if nrm r26 = 0 then (
                f_X7_readIf_j72 rec x0 μ25)
              else (
                f_X7_readIf_j73 rec x0 1 μ25))))))))))))))
def f_X7_readSum_j84 (rec : Nat → Int → Int → Mem → Option (Int × Mem)) (k8 : Int → Int → Int → Int → Mem → Option (Int × Mem)) (x0 x1 x2 x3 s0 s1 : Int) (μ : Mem) : Option (Int × Mem) :=
  gd (isK s0 4) (
  bn (f_X4_addStep s0 s1 0 μ) fun r3 μ2 => (
  k8 x0 x1 x2 (x3 + 1) μ2))
def f_X7_readSum_j43 (rec : Nat → Int → Int → Mem → Option (Int × Mem)) (k8 : Int → Int → Int → Int → Mem → Option (Int × Mem)) (x0 x1 x3 : Int) (μ : Mem) : Option (Int × Mem) :=
  nm (μ (x0 + 1) 0) fun v1 => (
  bn (f_X9_advance (x0 + 1) μ) fun r4 μ3 => (
  bn (rec 4 x0 x1 μ3) fun r7 μ6 => (
  gd (isK (μ6 x0 1) 3) (
  if nrm v1 = nrm 43 then (
    f_X7_readSum_j84 rec k8 x0 x1 r7 x3 ((μ6 x0 1) + 7) 2 μ6)
  else (
    f_X7_readSum_j84 rec k8 x0 x1 r7 x3 ((μ6 x0 1) + 7) 3 μ6)))))
def f_X7_readSum_w8 (rec : Nat → Int → Int → Mem → Option (Int × Mem)) : Nat → Int → Int → Int → Int → Mem → Option (Int × Mem)
  | 0, _, _, _, _, _ => none
  | n + 1, x0, x1, x2, x3, μ =>
  if nrm 900 ≤ nrm x3 then (
    gd (isB x2) (
    some (x2, μ)))
  else (
    if nrm x2 = 0 then (
      gd (isB x2) (
      some (x2, μ)))
    else (
      if nrm (μ (x0 + 1) 0) = nrm 43 then (
        f_X7_readSum_j43 rec (f_X7_readSum_w8 rec n) x0 x1 x3 μ)
      else (
        if nrm (μ (x0 + 1) 0) = nrm 45 then (
          f_X7_readSum_j43 rec (f_X7_readSum_w8 rec n) x0 x1 x3 μ)
        else (
          gd (isB x2) (
          some (x2, μ))))))
def b_X7_readSum (rec : Nat → Int → Int → Mem → Option (Int × Mem)) (x0 x1 : Int) (μ : Mem) : Option (Int × Mem) :=
  bn (rec 4 x0 x1 μ) fun r2 μ1 => (
  f_X7_readSum_w8 rec FU x0 x1 r2 0 μ1)
def f_X7_readTerm_w8 (rec : Nat → Int → Int → Mem → Option (Int × Mem)) : Nat → Int → Int → Int → Int → Mem → Option (Int × Mem)
  | 0, _, _, _, _, _ => none
  | n + 1, x0, x1, x2, x3, μ =>
  if nrm 900 ≤ nrm x3 then (
    gd (isB x2) (
    some (x2, μ)))
  else (
    if nrm x2 = 0 then (
      gd (isB x2) (
      some (x2, μ)))
    else (
      if nrm (μ (x0 + 1) 0) = nrm 42 then (
        bn (f_X9_advance (x0 + 1) μ) fun r8 μ7 => (
        bn (rec 0 x0 x1 μ7) fun r11 μ10 => (
        gd (isK (μ10 x0 1) 3) (
        bn (f_X4_addStep ((μ10 x0 1) + 7) 4 0 μ10) fun r15 μ14 => (
        f_X7_readTerm_w8 rec n x0 x1 r11 (x3 + 1) μ14)))))
      else (
        gd (isB x2) (
        some (x2, μ)))))
def b_X7_readTerm (rec : Nat → Int → Int → Mem → Option (Int × Mem)) (x0 x1 : Int) (μ : Mem) : Option (Int × Mem) :=
  bn (rec 0 x0 x1 μ) fun r2 μ1 => (
  f_X7_readTerm_w8 rec FU x0 x1 r2 0 μ1)
def f_X7_readTruth_w8 (rec : Nat → Int → Int → Mem → Option (Int × Mem)) : Nat → Int → Int → Int → Int → Mem → Option (Int × Mem)
  | 0, _, _, _, _, _ => none
  | n + 1, x0, x1, x2, x3, μ =>
  if nrm 900 ≤ nrm x3 then (
    gd (isB x2) (
    some (x2, μ)))
  else (
    if nrm x2 = 0 then (
      gd (isB x2) (
      some (x2, μ)))
    else (
      if nrm (μ (x0 + 1) 0) = nrm 149 then (
        bn (f_X9_advance (x0 + 1) μ) fun r8 μ7 => (
        bn (rec 1 x0 x1 μ7) fun r11 μ10 => (
        gd (isK (μ10 x0 1) 3) (
        bn (f_X4_addStep ((μ10 x0 1) + 7) 10 0 μ10) fun r15 μ14 => (
        f_X7_readTruth_w8 rec n x0 x1 r11 (x3 + 1) μ14)))))
      else (
        gd (isB x2) (
        some (x2, μ)))))
def b_X7_readTruth (rec : Nat → Int → Int → Mem → Option (Int × Mem)) (x0 x1 : Int) (μ : Mem) : Option (Int × Mem) :=
  bn (rec 1 x0 x1 μ) fun r2 μ1 => (
  f_X7_readTruth_w8 rec FU x0 x1 r2 0 μ1)
def f_X7_readUnit_j182 (rec : Nat → Int → Int → Mem → Option (Int × Mem)) (x3 s0 s1 : Int) (μ : Mem) : Option (Int × Mem) :=
  gd (isK s0 4) (
  bn (f_X4_addStep s0 s1 0 μ) fun r3 μ2 => (
  gd (isB x3) (
  some (x3, μ2))))
def f_X7_readUnit_j139 (rec : Nat → Int → Int → Mem → Option (Int × Mem)) (x0 x1 x2 : Int) (μ : Mem) : Option (Int × Mem) :=
  bn (f_X9_advance (x0 + 1) μ) fun r2 μ1 => (
  bn (rec 3 x0 x1 μ1) fun r5 μ4 => (
  gd (isK (μ4 x0 1) 3) (
  if nrm x2 = nrm 61 then (
    f_X7_readUnit_j182 rec r5 ((μ4 x0 1) + 7) 5 μ4)
  else (
    if nrm x2 = nrm 60 then (
      f_X7_readUnit_j182 rec r5 ((μ4 x0 1) + 7) 6 μ4)
    else (
      f_X7_readUnit_j182 rec r5 ((μ4 x0 1) + 7) 7 μ4)))))
def f_X7_readUnit_j36 (rec : Nat → Int → Int → Mem → Option (Int × Mem)) (x0 s0 : Int) (μ : Mem) : Option (Int × Mem) :=
  gd (isK (μ x0 1) 3) (
  bn (f_X4_addStep ((μ x0 1) + 7) 8 0 μ) fun r3 μ2 => (
  gd (isB s0) (
  some (s0, μ2))))
def f_X7_readUnit_j35 (rec : Nat → Int → Int → Mem → Option (Int × Mem)) (x0 : Int) (μ : Mem) : Option (Int × Mem) :=
  f_X7_readUnit_j36 rec x0 0 μ
def b_X7_readUnit (rec : Nat → Int → Int → Mem → Option (Int × Mem)) (x0 x1 : Int) (μ : Mem) : Option (Int × Mem) :=
  if nrm (μ (x0 + 1) 0) = nrm 147 then (
    bn (f_X7_takeOpening x0 x1 μ) fun r29 μ28 => (
    if nrm r29 = 0 then (
      f_X7_readUnit_j35 rec x0 μ28)
    else (
      bn (rec 6 x0 (x1 + 1) μ28) fun r33 μ32 => (
      if nrm r33 = 0 then (
        f_X7_readUnit_j35 rec x0 μ32)
      else (
        f_X7_readUnit_j36 rec x0 1 μ32)))))
  else (
    if nrm (μ (x0 + 1) 0) = nrm 91 then (
      bn (f_X7_takeOpening x0 x1 μ) fun r17 μ16 => (
      if nrm r17 = 0 then (
        some (0, μ16))
      else (
        bn (rec 5 x0 (x1 + 1) μ16) fun r21 μ20 => (
        if nrm r21 = 0 then (
          some (0, μ20))
        else (
          bn (f_X7_take x0 93 μ20) fun r25 μ24 => (
          if nrm r25 = 0 then (
            some (0, μ24))
          else (
            some (1, μ24))))))))
    else (
      bn (rec 3 x0 x1 μ) fun r4 μ3 => (
      if nrm r4 = 0 then (
        some (0, μ3))
      else (
        nm (μ3 (x0 + 1) 0) fun v7 => (
        if nrm v7 = nrm 61 then (
          f_X7_readUnit_j139 rec x0 x1 v7 μ3)
        else (
          if nrm v7 = nrm 60 then (
            f_X7_readUnit_j139 rec x0 x1 v7 μ3)
          else (
            if nrm v7 = nrm 62 then (
              f_X7_readUnit_j139 rec x0 x1 v7 μ3)
            else (
              bn (f_X7_refuse x0 2 μ3) fun r13 μ12 => (
              gd (isB r13) (
              some (r13, μ12)))))))))))
def g_X7_readAtom : Nat → Nat → Int → Int → Mem → Option (Int × Mem)
  | 0, _, _, _, _ => none
  | n + 1, sel, a0, a1, μ => if sel = 0 then b_X7_readAtom (g_X7_readAtom n) a0 a1 μ else if sel = 1 then b_X7_readBoth (g_X7_readAtom n) a0 a1 μ else if sel = 2 then b_X7_readIf (g_X7_readAtom n) a0 a1 μ else if sel = 3 then b_X7_readSum (g_X7_readAtom n) a0 a1 μ else if sel = 4 then b_X7_readTerm (g_X7_readAtom n) a0 a1 μ else if sel = 5 then b_X7_readTruth (g_X7_readAtom n) a0 a1 μ else if sel = 6 then b_X7_readUnit (g_X7_readAtom n) a0 a1 μ else none
def f_X7_readAtom (x0 x1 : Int) (μ : Mem) : Option (Int × Mem) := g_X7_readAtom 64 0 x0 x1 μ
def f_X7_readBoth (x0 x1 : Int) (μ : Mem) : Option (Int × Mem) := g_X7_readAtom 64 1 x0 x1 μ
def f_X7_readIf (x0 x1 : Int) (μ : Mem) : Option (Int × Mem) := g_X7_readAtom 64 2 x0 x1 μ
def f_X7_readSum (x0 x1 : Int) (μ : Mem) : Option (Int × Mem) := g_X7_readAtom 64 3 x0 x1 μ
def f_X7_readTerm (x0 x1 : Int) (μ : Mem) : Option (Int × Mem) := g_X7_readAtom 64 4 x0 x1 μ
def f_X7_readTruth (x0 x1 : Int) (μ : Mem) : Option (Int × Mem) := g_X7_readAtom 64 5 x0 x1 μ
def f_X7_readUnit (x0 x1 : Int) (μ : Mem) : Option (Int × Mem) := g_X7_readAtom 64 6 x0 x1 μ
def f_X7_readWears (x0 : Int) (μ : Mem) : Option (Int × Mem) :=
  bn (f_X9_advance (x0 + 1) μ) fun r2 μ1 => (
  nm (ms μ1 x0 5 0) fun μ4 => (
  gd (isK (μ4 x0 1) 3) (
  bn (f_X4_stepsNow ((μ4 x0 1) + 7) μ4) fun r8 μ7 => (
  bn (f_X7_take x0 58 μ7) fun r11 μ10 => (
  if nrm r11 = 0 then (
    some (0, μ10))
  else (
    bn (f_X7_readSum x0 0 μ10) fun r15 μ14 => (
    if nrm r15 = 0 then (
      some (0, μ14))
    else (
      gd (isK (μ14 x0 1) 3) (
      bn (f_X4_enact ((μ14 x0 1) + 7) 0 r8 μ14) fun r20 μ19 => (
      bn (f_X7_takeLineEnd x0 μ19) fun r23 μ22 => (
      gd (isB r23) (
      some (r23, μ22)))))))))))))
def f_X7_readMay (x0 : Int) (μ : Mem) : Option (Int × Mem) :=
  bn (f_X9_advance (x0 + 1) μ) fun r2 μ1 => (
  nm (ms μ1 x0 5 1) fun μ4 => (
  gd (isK (μ4 x0 1) 3) (
  bn (f_X4_stepsNow ((μ4 x0 1) + 7) μ4) fun r8 μ7 => (
  bn (f_X7_take x0 58 μ7) fun r11 μ10 => (
  if nrm r11 = 0 then (
    some (0, μ10))
  else (
    bn (f_X7_readTruth x0 0 μ10) fun r15 μ14 => (
    if nrm r15 = 0 then (
      some (0, μ14))
    else (
      gd (isK (μ14 x0 1) 3) (
      bn (f_X4_enact ((μ14 x0 1) + 7) 1 r8 μ14) fun r20 μ19 => (
      bn (f_X7_takeLineEnd x0 μ19) fun r23 μ22 => (
      gd (isB r23) (
      some (r23, μ22)))))))))))))
def f_X7_readLine_j102 (x0 : Int) (μ : Mem) : Option (Int × Mem) :=
  bn (f_X7_refuse x0 2 μ) fun r2 μ1 => (
  gd (isB r2) (
  some (r2, μ1)))
def f_X7_readLine (x0 : Int) (μ : Mem) : Option (Int × Mem) :=
  if nrm (μ (x0 + 1) 0) = 130 then (
    bn (f_X7_readLane x0 μ) fun r3 μ2 => (
    gd (isB r3) (
    some (r3, μ2))))
  else (
  if nrm (μ (x0 + 1) 0) = 134 then (
    bn (f_X7_readCart x0 μ) fun r8 μ7 => (
    gd (isB r8) (
    some (r8, μ7))))
  else (
  if nrm (μ (x0 + 1) 0) = 137 then (
    bn (f_X7_readPerson x0 μ) fun r13 μ12 => (
    gd (isB r13) (
    some (r13, μ12))))
  else (
  if nrm (μ (x0 + 1) 0) = 140 then (
    bn (f_X7_readRain x0 μ) fun r18 μ17 => (
    gd (isB r18) (
    some (r18, μ17))))
  else (
  if nrm (μ (x0 + 1) 0) = 141 then (
    bn (f_X7_readWears x0 μ) fun r23 μ22 => (
    gd (isB r23) (
    some (r23, μ22))))
  else (
  if nrm (μ (x0 + 1) 0) = 142 then (
    bn (f_X7_readMay x0 μ) fun r28 μ27 => (
    gd (isB r28) (
    some (r28, μ27))))
  else (
    f_X7_readLine_j102 x0 μ))))))
def f_X7_readInto_w49 : Nat → Int → Int → Int → Mem → Option (Int × Mem)
  | 0, _, _, _, _ => none
  | n + 1, x0, x4, x5, μ =>
  if nrm 900 ≤ nrm x5 then (
    some ((μ x0 2), μ))
  else (
    if nrm x4 = 0 then (
      some ((μ x0 2), μ))
    else (
      if nrm (μ (x0 + 1) 0) = 0 then (
        some ((μ x0 2), μ))
      else (
        bn (f_X7_readLine x0 μ) fun r5 μ4 => (
        f_X7_readInto_w49 n x0 r5 (x5 + 1) μ4))))
def f_X7_readInto (x0 x1 x2 x3 : Int) (μ : Mem) : Option (Int × Mem) :=
  nm (ms μ x0 2 0) fun μ1 => (
  nm (ms μ1 x0 3 (-1)) fun μ3 => (
  nm (ms μ3 x0 1 x1) fun μ5 => (
  if (μ5 x0 1) < 0 then (
    some (0, μ5))
  else (
    gd (isK (μ5 x0 1) 3) (
    bn (f_X3_makeEmpty (μ5 x0 1) μ5) fun r10 μ9 => (
    bn (f_X9_begin (x0 + 1) x2 x3 μ9) fun r13 μ12 => (
    bn (f_X7_readLandLine x0 μ12) fun r16 μ15 => (
    f_X7_readInto_w49 FU x0 r16 0 μ15))))))))
def f_X7_placeOfFault (x0 : Int) (μ : Mem) : Option (Int × Mem) :=
  some ((μ x0 3), μ)
def f_X8_isOpenAt (x0 x1 x2 : Int) (μ : Mem) : Option (Int × Mem) :=
  nm ((x1 * 7) + x2) fun v1 => (
  if nrm v1 < 0 then (
    some (0, μ))
  else (
    if nrm 63 ≤ nrm v1 then (
      some (0, μ))
    else (
      gd (0 ≤ nrm v1 ∧ nrm v1 < 63) (
      if nrm (μ (x0 + 1) (nrm v1)) = 0 then (
        some (0, μ))
      else (
        some (1, μ))))))
def f_X8_depthBehind (x0 x1 x2 : Int) (μ : Mem) : Option (Int × Mem) :=
  nm ((x1 * 7) + x2) fun v1 => (
  if nrm v1 < 0 then (
    some (x2, μ))
  else (
    if nrm 63 ≤ nrm v1 then (
      some (x2, μ))
    else (
      gd (0 ≤ nrm v1 ∧ nrm v1 < 63) (
      some ((μ (x0 + 2) (nrm v1)), μ)))))
def f_X8_pairsFrom_j178 (k84 : Int → Int → Int → Int → Mem → Option (Int × Mem)) (x0 x1 x2 x3 : Int) (μ : Mem) : Option (Int × Mem) :=
  k84 x0 x1 x2 (x3 + 1) μ
def f_X8_pairsFrom_w84 : Nat → Int → Int → Int → Int → Mem → Option (Int × Mem)
  | 0, _, _, _, _, _ => none
  | n + 1, x0, x1, x2, x3, μ =>
  gd (isK (μ x0 4) 3) (
  if nrm (μ (μ x0 4) 1) ≤ nrm x3 then (
    some (x2, μ))
  else (
    if nrm 9 ≤ nrm x3 then (
      some (x2, μ))
    else (
      bn (f_X3_otherEnd (μ x0 4) x3 x1 μ) fun r5 μ4 => (
      if nrm r5 < 0 then (
        f_X8_pairsFrom_j178 (f_X8_pairsFrom_w84 n) x0 x1 x2 x3 μ4)
      else (
        if nrm 7 ≤ nrm r5 then (
          f_X8_pairsFrom_j178 (f_X8_pairsFrom_w84 n) x0 x1 x2 x3 μ4)
        else (
          gd (0 ≤ nrm x3 ∧ nrm x3 < 9) (
          bn (f_X8_isOpenAt x0 x3 (μ4 (x0 + 3) (nrm x3)) μ4) fun r11 μ10 => (
          if nrm r11 = 0 then (
            f_X8_pairsFrom_j178 (f_X8_pairsFrom_w84 n) x0 x1 x2 x3 μ10)
          else (
            gd (0 ≤ nrm r5 ∧ nrm r5 < 7) (
            nm (x2 + (μ10 (x0 + 4) (nrm r5))) fun v15 => (
            if nrm x1 = nrm (μ10 x0 6) then (
              gd (0 ≤ nrm x3 ∧ nrm x3 < 9) (
              bn (f_X8_depthBehind x0 x3 (μ10 (x0 + 3) (nrm x3)) μ10) fun r20 μ19 => (
              bn (f_X8_isOpenAt x0 x3 r20 μ19) fun r23 μ22 => (
              if nrm r23 = 0 then (
                f_X8_pairsFrom_j178 (f_X8_pairsFrom_w84 n) x0 x1 (v15 + (-1)) x3 μ22)
              else (
                f_X8_pairsFrom_j178 (f_X8_pairsFrom_w84 n) x0 x1 v15 x3 μ22)))))
            else (
              f_X8_pairsFrom_j178 (f_X8_pairsFrom_w84 n) x0 x1 v15 x3 μ10))))))))))))
def f_X8_pairsFrom_j80 (x0 x1 : Int) (μ : Mem) : Option (Int × Mem) :=
  f_X8_pairsFrom_w84 FU x0 x1 0 0 μ
def f_X8_pairsFrom_j74 (k10 : Int → Int → Int → Mem → Option (Int × Mem)) (x0 x1 x2 : Int) (μ : Mem) : Option (Int × Mem) :=
  k10 x0 x1 (x2 + 1) μ
def f_X8_pairsFrom_w10 : Nat → Int → Int → Int → Mem → Option (Int × Mem)
  | 0, _, _, _, _ => none
  | n + 1, x0, x1, x2, μ =>
  gd (isK (μ x0 4) 3) (
  if nrm (μ (μ x0 4) 1) ≤ nrm x2 then (
    f_X8_pairsFrom_j80 x0 x1 μ)
  else (
    if nrm 9 ≤ nrm x2 then (
      f_X8_pairsFrom_j80 x0 x1 μ)
    else (
      bn (f_X3_otherEnd (μ x0 4) x2 (μ x0 6) μ) fun r5 μ4 => (
      if nrm r5 < 0 then (
        f_X8_pairsFrom_j74 (f_X8_pairsFrom_w10 n) x0 x1 x2 μ4)
      else (
        if nrm 7 ≤ nrm r5 then (
          f_X8_pairsFrom_j74 (f_X8_pairsFrom_w10 n) x0 x1 x2 μ4)
        else (
          gd (0 ≤ nrm x2 ∧ nrm x2 < 9) (
          bn (f_X8_isOpenAt x0 x2 (μ4 (x0 + 3) (nrm x2)) μ4) fun r11 μ10 => (
          if nrm r11 = 0 then (
            f_X8_pairsFrom_j74 (f_X8_pairsFrom_w10 n) x0 x1 x2 μ10)
          else (
            gd (0 ≤ nrm r5 ∧ nrm r5 < 7) (
            gd (0 ≤ nrm r5 ∧ nrm r5 < 7) (
            nm (ms μ10 (x0 + 4) (nrm r5) ((μ10 (x0 + 4) (nrm r5)) + 1)) fun μ15 => (
            f_X8_pairsFrom_j74 (f_X8_pairsFrom_w10 n) x0 x1 x2 μ15))))))))))))
def f_X8_pairsFrom (x0 x1 : Int) (μ : Mem) : Option (Int × Mem) :=
  bn (f_J7_fill_53178 (x0 + 4) 0 μ) fun r2 μ1 => (
  f_X8_pairsFrom_w10 FU x0 x1 0 μ1)
def f_X8_rowsFrom_j145 (rec : Nat → Int → Int → Int → Mem → Option (Int × Mem)) (k50 : Int → Int → Int → Int → Int → Mem → Option (Int × Mem)) (x0 x1 x2 x4 x5 : Int) (μ : Mem) : Option (Int × Mem) :=
  k50 x0 x1 x2 x4 (x5 + 1) μ
def f_X8_rowsFrom_w50 (rec : Nat → Int → Int → Int → Mem → Option (Int × Mem)) : Nat → Int → Int → Int → Int → Int → Mem → Option (Int × Mem)
  | 0, _, _, _, _, _, _ => none
  | n + 1, x0, x1, x2, x4, x5, μ =>
  gd (isK (μ x0 4) 3) (
  if nrm (μ (μ x0 4) 1) ≤ nrm x5 then (
    some (x4, μ))
  else (
    if nrm 9 ≤ nrm x5 then (
      some (x4, μ))
    else (
      bn (f_X3_otherEnd (μ x0 4) x5 x1 μ) fun r5 μ4 => (
      gd (0 ≤ nrm x5 ∧ nrm x5 < 9) (
      nm (μ4 (x0 + 3) (nrm x5)) fun v8 => (
      if nrm r5 = nrm (-1) then (
        f_X8_rowsFrom_j145 rec (f_X8_rowsFrom_w50 rec n) x0 x1 x2 x4 x5 μ4)
      else (
        bn (f_X8_isOpenAt x0 x5 v8 μ4) fun r12 μ11 => (
        if nrm r12 = 0 then (
          f_X8_rowsFrom_j145 rec (f_X8_rowsFrom_w50 rec n) x0 x1 x2 x4 x5 μ11)
        else (
          bn (f_X8_depthBehind x0 x5 v8 μ11) fun r16 μ15 => (
          gd (0 ≤ nrm x5 ∧ nrm x5 < 9) (
          nm (ms μ15 (x0 + 3) (nrm x5) r16) fun μ18 => (
          bn (rec 0 x0 r5 (x2 - 1) μ18) fun r22 μ21 => (
          nm (x4 + r22) fun v24 => (
          gd (0 ≤ nrm x5 ∧ nrm x5 < 9) (
          nm (ms μ21 (x0 + 3) (nrm x5) v8) fun μ26 => (
          f_X8_rowsFrom_j145 rec (f_X8_rowsFrom_w50 rec n) x0 x1 x2 v24 x5 μ26))))))))))))))))
def b_X8_rowsFrom (rec : Nat → Int → Int → Int → Mem → Option (Int × Mem)) (x0 x1 x2 : Int) (μ : Mem) : Option (Int × Mem) :=
  gd (isK (μ x0 5) 6) (
  bn (f_X6_farFrom (μ x0 5) x1 μ) fun r3 μ2 => (
  if nrm r3 = nrm (-1) then (
    some (0, μ2))
  else (
    if nrm x2 < nrm r3 then (
      some (0, μ2))
    else (
      if nrm x2 ≤ nrm 6 then (
        if 0 < nrm x2 then (
          if nrm x2 = nrm 2 then (
            bn (f_X8_pairsFrom x0 x1 μ2) fun r11 μ10 => (
            some (r11, μ10)))
          else (
            f_X8_rowsFrom_w50 rec FU x0 x1 x2 0 0 μ2))
        else (
          some (1, μ2)))
      else (
        some (0, μ2))))))
def g_X8_rowsFrom : Nat → Nat → Int → Int → Int → Mem → Option (Int × Mem)
  | 0, _, _, _, _, _ => none
  | n + 1, sel, a0, a1, a2, μ => if sel = 0 then b_X8_rowsFrom (g_X8_rowsFrom n) a0 a1 a2 μ else none
def f_X8_rowsFrom (x0 x1 x2 : Int) (μ : Mem) : Option (Int × Mem) := g_X8_rowsFrom 64 0 x0 x1 x2 μ
def f_X8_countRows_w44 (k21 : Int → Int → Int → Int → Mem → Option (Int × Mem)) : Nat → Int → Int → Int → Int → Int → Mem → Option (Int × Mem)
  | 0, _, _, _, _, _, _ => none
  | n + 1, x0, x1, x4, x5, x6, μ =>
  if nrm 7 ≤ nrm x6 then (
    k21 x0 x1 x4 (x5 + 1) μ)
  else (
    gd (isK (μ x0 4) 3) (
    bn (f_X3_mayGo (μ x0 4) x5 x6 x1 μ) fun r4 μ3 => (
    gd (0 ≤ nrm ((x5 * 7) + x6) ∧ nrm ((x5 * 7) + x6) < 63) (
    gd (isB r4) (
    nm (ms μ3 (x0 + 1) (nrm ((x5 * 7) + x6)) r4) fun μ6 => (
    gd (isK x1 0) (
    gd (isK (μ6 x0 4) 3) (
    bn (f_X3_wornFrom (μ6 x0 4) x5 x6 (μ6 x1 2) μ6) fun r13 μ12 => (
    gd (0 ≤ nrm ((x5 * 7) + x6) ∧ nrm ((x5 * 7) + x6) < 63) (
    nm (ms μ12 (x0 + 2) (nrm ((x5 * 7) + x6)) r13) fun μ15 => (
    f_X8_countRows_w44 k21 n x0 x1 x4 x5 (x6 + 1) μ15)))))))))))
def f_X8_countRows_w21 : Nat → Int → Int → Int → Int → Mem → Option (Int × Mem)
  | 0, _, _, _, _, _ => none
  | n + 1, x0, x1, x4, x5, μ =>
  if nrm 9 ≤ nrm x5 then (
    gd (isK x1 0) (
    bn (f_X8_rowsFrom x0 (μ x1 1) x4 μ) fun r4 μ3 => (
    some (r4, μ3))))
  else (
    gd (isK x1 0) (
    bn (f_X0_depthOf x1 x5 μ) fun r8 μ7 => (
    gd (0 ≤ nrm x5 ∧ nrm x5 < 9) (
    nm (ms μ7 (x0 + 3) (nrm x5) r8) fun μ10 => (
    f_X8_countRows_w44 (f_X8_countRows_w21 n) FU x0 x1 x4 x5 0 μ10)))))
def f_X8_countRows (x0 x1 x2 x3 x4 : Int) (μ : Mem) : Option (Int × Mem) :=
  gd (isK x1 0) (
  nm (ms μ x0 4 (μ x1 0)) fun μ2 => (
  nm (ms μ2 x0 5 x2) fun μ4 => (
  nm (ms μ4 x0 6 x3) fun μ6 => (
  f_X8_countRows_w21 FU x0 x1 x4 0 μ6))))
def f_J7_fill_d0a16_w6 : Nat → Int → Int → Int → Int → Mem → Option (Int × Mem)
  | 0, _, _, _, _, _ => none
  | n + 1, x0, x1, x3, x4, μ =>
  if nrm x4 ≤ nrm x3 then (
    some (0, μ))
  else (
    gd (isK x0 40040) (
    gd (0 ≤ nrm x3 ∧ nrm x3 < 40) (
    nm (ms μ x0 (nrm x3) x1) fun μ2 => (
    f_J7_fill_d0a16_w6 n x0 x1 (x3 + 1) x4 μ2))))
def f_J7_fill_d0a16 (x0 x1 : Int) (μ : Mem) : Option (Int × Mem) :=
  gd (isK x0 40040) (
  f_J7_fill_d0a16_w6 FU x0 x1 0 40 μ)
def f_X10_makeNew (x0 x1 x2 : Int) (μ : Mem) : Option (Int × Mem) :=
  nm (ms μ x0 0 0) fun μ1 => (
  nm (ms μ1 x0 2 x1) fun μ3 => (
  nm (ms μ3 x0 1 x2) fun μ5 => (
  bn (f_J7_fill_d0a16 (x0 + 1) 0 μ5) fun r8 μ7 => (
  some (0, μ7)))))
def f_X10_numberAt (x0 x1 : Int) (μ : Mem) : Option (Int × Mem) :=
  if nrm x1 < 0 then (
    some (0, μ))
  else (
    if nrm (μ x0 1) ≤ nrm x1 then (
      some (0, μ))
    else (
      if nrm x1 < nrm 40 then (
        gd (0 ≤ nrm x1 ∧ nrm x1 < 40) (
        some ((μ (x0 + 1) (nrm x1)), μ)))
      else (
        some (0, μ))))
def f_X10_cutToSort (x0 x1 : Int) (μ : Mem) : Option (Int × Mem) :=
  if nrm (μ x0 2) = 0 then (
    some ((nrm (jb x1)), μ))
  else (
  if nrm (μ x0 2) = 1 then (
    some ((nrm (js x1)), μ))
  else (
  if nrm (μ x0 2) = 2 then (
    some ((nrm x1), μ))
  else (
  some (x1, μ))))
def f_X10_put (x0 x1 x2 : Int) (μ : Mem) : Option (Int × Mem) :=
  if nrm x1 < 0 then (
    some (0, μ))
  else (
    if nrm (μ x0 1) ≤ nrm x1 then (
      some (0, μ))
    else (
      if nrm 40 ≤ nrm x1 then (
        some (0, μ))
      else (
        bn (f_X10_cutToSort x0 x2 μ) fun r5 μ4 => (
        gd (0 ≤ nrm x1 ∧ nrm x1 < 40) (
        nm (ms μ4 (x0 + 1) (nrm x1) r5) fun μ7 => (
        some (0, μ7)))))))
def f_X11_putOnTape_j49 (k3 : Int → Int → Int → Mem → Option (Int × Mem)) (x0 x1 x2 : Int) (μ : Mem) : Option (Int × Mem) :=
  k3 x0 x1 (x2 + (-8)) μ
def f_X11_putOnTape_w3 : Nat → Int → Int → Int → Mem → Option (Int × Mem)
  | 0, _, _, _, _ => none
  | n + 1, x0, x1, x2, μ =>
  if nrm x2 < 0 then (
    some (0, μ))
  else (
    if nrm (μ x0 1) < 0 then (
      f_X11_putOnTape_j49 (f_X11_putOnTape_w3 n) x0 x1 x2 μ)
    else (
      if nrm 900 ≤ nrm (μ x0 1) then (
        f_X11_putOnTape_j49 (f_X11_putOnTape_w3 n) x0 x1 x2 μ)
      else (
        gd (0 ≤ nrm (μ x0 1) ∧ nrm (μ x0 1) < 900) (
        nm (ms μ (x0 + 1) (nrm (μ x0 1)) (jb (jb (jshr x1 x2)))) fun μ4 => (
        nm (ms μ4 x0 1 ((μ4 x0 1) + 1)) fun μ7 => (
        f_X11_putOnTape_j49 (f_X11_putOnTape_w3 n) x0 x1 x2 μ7))))))
def f_X11_putOnTape (x0 x1 : Int) (μ : Mem) : Option (Int × Mem) :=
  f_X11_putOnTape_w3 FU x0 x1 24 μ
def f_X11_feed (x0 x1 x2 x3 x4 x5 : Int) (μ : Mem) : Option (Int × Mem) :=
  if nrm ((μ x0 1) + 20) ≤ nrm 900 then (
    bn (f_X11_putOnTape x0 x1 μ) fun r3 μ2 => (
    bn (f_X11_putOnTape x0 x2 μ2) fun r6 μ5 => (
    bn (f_X11_putOnTape x0 x3 μ5) fun r9 μ8 => (
    bn (f_X11_putOnTape x0 x4 μ8) fun r12 μ11 => (
    bn (f_X11_putOnTape x0 x5 μ11) fun r15 μ14 => (
    some ((μ14 x0 1), μ14)))))))
  else (
    some ((-5), μ))
def f_X11_spareLand_j109 (k9 : Int → Int → Int → Mem → Option (Int × Mem)) (x0 x1 x2 : Int) (μ : Mem) : Option (Int × Mem) :=
  k9 x0 x1 (x2 + 1) μ
def f_X11_spareLand_j91 (k9 : Int → Int → Int → Mem → Option (Int × Mem)) (k43 : Int → Int → Int → Int → Int → Mem → Option (Int × Mem)) (x0 x1 x2 x4 s0 : Int) (μ : Mem) : Option (Int × Mem) :=
  k43 x0 x1 x2 s0 (x4 + 1) μ
def f_X11_spareLand_j86 (k9 : Int → Int → Int → Mem → Option (Int × Mem)) (k43 : Int → Int → Int → Int → Int → Mem → Option (Int × Mem)) (x0 x1 x2 x4 : Int) (μ : Mem) : Option (Int × Mem) :=
  f_X11_spareLand_j91 k9 k43 x0 x1 x2 x4 1 μ
def f_X11_spareLand_j90 (k9 : Int → Int → Int → Mem → Option (Int × Mem)) (k43 : Int → Int → Int → Int → Int → Mem → Option (Int × Mem)) (x0 x1 x2 x4 : Int) (μ : Mem) : Option (Int × Mem) :=
  f_X11_spareLand_j91 k9 k43 x0 x1 x2 x4 0 μ
def f_X11_spareLand_w43 (k9 : Int → Int → Int → Mem → Option (Int × Mem)) : Nat → Int → Int → Int → Int → Int → Mem → Option (Int × Mem)
  | 0, _, _, _, _, _, _ => none
  | n + 1, x0, x1, x2, x3, x4, μ =>
  if nrm 2 ≤ nrm x4 then (
    if nrm x3 = 0 then (
      gd (0 ≤ nrm x2 ∧ nrm x2 < 4) (
      f_X11_spareLand_j109 k9 x0 ((x0 + 5) + 1 + 13 * (nrm x2)) x2 μ))
    else (
      f_X11_spareLand_j109 k9 x0 x1 x2 μ))
  else (
    if nrm x3 = 0 then (
      gd (0 ≤ nrm x4 ∧ nrm x4 < 2) (
      if ((x0 + 84) + 1 + 2 * (nrm x4)) < 0 then (
        f_X11_spareLand_j90 k9 (f_X11_spareLand_w43 k9 n) x0 x1 x2 x4 μ)
      else (
        gd (0 ≤ nrm x2 ∧ nrm x2 < 4) (
        gd (0 ≤ nrm x4 ∧ nrm x4 < 2) (
        gd (isK (μ ((x0 + 84) + 1 + 2 * (nrm x4)) 0) 3) (
        if ((x0 + 5) + 1 + 13 * (nrm x2)) = (μ ((x0 + 84) + 1 + 2 * (nrm x4)) 0) then (
          f_X11_spareLand_j86 k9 (f_X11_spareLand_w43 k9 n) x0 x1 x2 x4 μ)
        else (
          f_X11_spareLand_j90 k9 (f_X11_spareLand_w43 k9 n) x0 x1 x2 x4 μ)))))))
    else (
      f_X11_spareLand_j86 k9 (f_X11_spareLand_w43 k9 n) x0 x1 x2 x4 μ))
def f_X11_spareLand_j39 (k9 : Int → Int → Int → Mem → Option (Int × Mem)) (x0 x1 x2 s0 : Int) (μ : Mem) : Option (Int × Mem) :=
  f_X11_spareLand_w43 k9 FU x0 x1 x2 s0 0 μ
def f_X11_spareLand_w9 : Nat → Int → Int → Int → Mem → Option (Int × Mem)
  | 0, _, _, _, _ => none
  | n + 1, x0, x1, x2, μ =>
  if nrm 4 ≤ nrm x2 then (
    some (x1, μ))
  else (
    gd (0 ≤ nrm x2 ∧ nrm x2 < 4) (
    gd (isK (μ (x0 + 58) 0) 3) (
    if ((x0 + 5) + 1 + 13 * (nrm x2)) = (μ (x0 + 58) 0) then (
      f_X11_spareLand_j39 (f_X11_spareLand_w9 n) x0 x1 x2 1 μ)
    else (
      f_X11_spareLand_j39 (f_X11_spareLand_w9 n) x0 x1 x2 0 μ))))
def f_X11_spareLand (x0 : Int) (μ : Mem) : Option (Int × Mem) :=
  f_X11_spareLand_w9 FU x0 ((x0 + 5) + 1 + 13 * 0) 0 μ
def f_X11_land (x0 x1 : Int) (μ : Mem) : Option (Int × Mem) :=
  if nrm x1 < 0 then (
    some ((-3), μ))
  else (
    if nrm x1 ≤ nrm (μ x0 1) then (
      nm (ms μ x0 1 0) fun μ3 => (
      bn (f_X11_spareLand x0 μ3) fun r6 μ5 => (
      bn (f_X7_readInto (x0 + 2) r6 (x0 + 1) x1 μ5) fun r9 μ8 => (
      nm (ms μ8 x0 3 r9) fun μ11 => (
      bn (f_X7_placeOfFault (x0 + 2) μ11) fun r14 μ13 => (
      nm (ms μ13 x0 4 r14) fun μ16 => (
      if nrm (μ16 x0 3) = 0 then (
        bn (f_X0_beginIn (x0 + 58) r6 μ16) fun r20 μ19 => (
        bn (f_X2_forgetAll (x0 + 62) μ19) fun r23 μ22 => (
        gd (isK r6 3) (
        some ((μ22 r6 3), μ22)))))
      else (
        some (((-30) - (μ16 x0 3)), μ16)))))))))
    else (
      some ((-3), μ)))
def f_X11_fault (x0 x1 : Int) (μ : Mem) : Option (Int × Mem) :=
  if nrm x1 = 0 then (
    some ((μ x0 3), μ))
  else (
  if nrm x1 = 1 then (
    some ((μ x0 4), μ))
  else (
  some ((-1), μ)))
def f_X11_lane (x0 x1 x2 : Int) (μ : Mem) : Option (Int × Mem) :=
  gd (isK (μ (x0 + 58) 0) 3) (
  bn (f_X3_hasLane (μ (x0 + 58) 0) x1 μ) fun r3 μ2 => (
  if nrm r3 = 0 then (
    some ((-2), μ2))
  else (
    if nrm x2 = 0 then (
      gd (isK (μ2 (x0 + 58) 0) 3) (
      gd (0 ≤ nrm x1 ∧ nrm x1 < 9) (
      some ((μ2 ((μ2 (x0 + 58) 0) + 1) (nrm x1)), μ2))))
    else (
    if nrm x2 = 1 then (
      gd (isK (μ2 (x0 + 58) 0) 3) (
      gd (0 ≤ nrm x1 ∧ nrm x1 < 9) (
      some ((μ2 ((μ2 (x0 + 58) 0) + 2) (nrm x1)), μ2))))
    else (
    if nrm x2 = 2 then (
      gd (0 ≤ nrm x1 ∧ nrm x1 < 9) (
      some ((μ2 ((x0 + 58) + 1) (nrm x1)), μ2)))
    else (
    if nrm x2 = 3 then (
      gd (isK (μ2 (x0 + 58) 0) 3) (
      gd (0 ≤ nrm x1 ∧ nrm x1 < 9) (
      some ((μ2 ((μ2 (x0 + 58) 0) + 4) (nrm x1)), μ2))))
    else (
    if nrm x2 = 4 then (
      gd (isK (μ2 (x0 + 58) 0) 3) (
      gd (0 ≤ nrm x1 ∧ nrm x1 < 9) (
      some ((μ2 ((μ2 (x0 + 58) 0) + 5) (nrm x1)), μ2))))
    else (
    if nrm x2 = 5 then (
      bn (f_X0_isOpen (x0 + 58) x1 μ2) fun r22 μ21 => (
      if nrm r22 = 0 then (
        some (0, μ21))
      else (
        some (1, μ21))))
    else (
    some ((-2), μ2))))))))))
def f_X11_why (x0 x1 : Int) (μ : Mem) : Option (Int × Mem) :=
  bn (f_X0_whyNoGoing (x0 + 58) x1 μ) fun r2 μ1 => (
  some (r2, μ1))
def f_X11_worn (x0 x1 : Int) (μ : Mem) : Option (Int × Mem) :=
  gd (isK (μ (x0 + 58) 0) 3) (
  bn (f_X3_hasLane (μ (x0 + 58) 0) x1 μ) fun r3 μ2 => (
  if nrm r3 = 0 then (
    some ((-2), μ2))
  else (
    gd (0 ≤ nrm x1 ∧ nrm x1 < 9) (
    gd (isK (μ2 (x0 + 58) 0) 3) (
    bn (f_X3_wornFrom (μ2 (x0 + 58) 0) x1 (μ2 ((x0 + 58) + 1) (nrm x1)) (μ2 (x0 + 58) 2) μ2) fun r9 μ8 => (
    some (r9, μ8)))))))
def f_X11_fillings (x0 x1 : Int) (μ : Mem) : Option (Int × Mem) :=
  gd (isK (μ (x0 + 58) 0) 3) (
  bn (f_X3_hasLane (μ (x0 + 58) 0) x1 μ) fun r3 μ2 => (
  if nrm r3 = 0 then (
    some ((-2), μ2))
  else (
    bn (f_X0_fillingsOf (x0 + 58) x1 μ2) fun r7 μ6 => (
    some (r7, μ6)))))
def f_X11_doOne (x0 x1 x2 : Int) (μ : Mem) : Option (Int × Mem) :=
  if nrm x2 < 0 then (
    some (1, μ))
  else (
    if nrm x2 ≤ nrm 9 then (
      bn (f_X0_takeOver (x0 + 60) (x0 + 58) μ) fun r4 μ3 => (
      bn (f_X0_tryDeed (x0 + 58) (nrm (x1 + x2)) μ3) fun r7 μ6 => (
      if nrm r7 = 0 then (
        bn (f_X2_keep (x0 + 62) (x0 + 60) μ6) fun r11 μ10 => (
        some (r7, μ10)))
      else (
        some (r7, μ6)))))
    else (
      some (1, μ)))
def f_X11_go (x0 x1 : Int) (μ : Mem) : Option (Int × Mem) :=
  bn (f_X11_doOne x0 0 x1 μ) fun r2 μ1 => (
  if nrm r2 = 0 then (
    some ((μ1 (x0 + 58) 1), μ1))
  else (
    some (((-10) - r2), μ1)))
def f_X11_fill (x0 x1 : Int) (μ : Mem) : Option (Int × Mem) :=
  bn (f_X11_doOne x0 10 x1 μ) fun r2 μ1 => (
  if nrm r2 = 0 then (
    bn (f_X0_depthOf (x0 + 58) x1 μ1) fun r6 μ5 => (
    some (r6, μ5)))
  else (
    some (((-10) - r2), μ1)))
def f_X11_dig (x0 x1 : Int) (μ : Mem) : Option (Int × Mem) :=
  bn (f_X11_doOne x0 20 x1 μ) fun r2 μ1 => (
  if nrm r2 = 0 then (
    bn (f_X0_depthOf (x0 + 58) x1 μ1) fun r6 μ5 => (
    some (r6, μ5)))
  else (
    some (((-10) - r2), μ1)))
def f_X11_turn (x0 x1 : Int) (μ : Mem) : Option (Int × Mem) :=
  bn (f_X11_doOne x0 40 x1 μ) fun r2 μ1 => (
  if nrm r2 = 0 then (
    some ((jand (jshr (μ1 (x0 + 58) 3) x1) 1), μ1))
  else (
    some (((-10) - r2), μ1)))
def f_X11_seasons_w27 : Nat → Int → Int → Int → Mem → Option (Int × Mem)
  | 0, _, _, _, _ => none
  | n + 1, x0, x1, x2, μ =>
  if nrm x1 ≤ nrm x2 then (
    bn (f_J6_bitCount_0f7a4 (μ (x0 + 58) 3) μ) fun r3 μ2 => (
    some (r3, μ2)))
  else (
    bn (f_X0_tryDeed (x0 + 58) 50 μ) fun r6 μ5 => (
    f_X11_seasons_w27 n x0 x1 (x2 + 1) μ5))
def f_X11_seasons (x0 x1 : Int) (μ : Mem) : Option (Int × Mem) :=
  if nrm x1 < nrm 1 then (
    some ((-3), μ))
  else (
    if nrm x1 ≤ nrm 99 then (
      bn (f_X2_keep (x0 + 62) (x0 + 58) μ) fun r4 μ3 => (
      f_X11_seasons_w27 FU x0 x1 0 μ3))
    else (
      some ((-3), μ)))
def f_X11_rain (x0 x1 : Int) (μ : Mem) : Option (Int × Mem) :=
  nm (μ (x0 + 58) 2) fun v1 => (
  bn (f_X11_doOne x0 30 x1 μ) fun r4 μ3 => (
  if nrm r4 = 0 then (
    some (v1, μ3))
  else (
    some (((-10) - r4), μ3))))
def f_X11_undo (x0 x1 : Int) (μ : Mem) : Option (Int × Mem) :=
  if nrm x1 < nrm 1 then (
    some ((-3), μ))
  else (
    if nrm 10 < nrm x1 then (
      some ((-3), μ))
    else (
      bn (f_X2_kept (x0 + 62) μ) fun r4 μ3 => (
      if nrm x1 ≤ nrm r4 then (
        bn (f_X2_bringBack (x0 + 62) x1 (x0 + 58) μ3) fun r8 μ7 => (
        bn (f_X2_kept (x0 + 62) μ7) fun r11 μ10 => (
        some (r11, μ10))))
      else (
        some ((-3), μ3)))))
def f_X11_trayOf (x0 x1 : Int) (μ : Mem) : Option (Int × Mem) :=
  if nrm x1 < 0 then (
    some ((-1), μ))
  else (
    if nrm x1 < nrm 4 then (
      gd (0 ≤ nrm x1 ∧ nrm x1 < 4) (
      some (((x0 + 89) + 1 + 2 * (nrm x1)), μ)))
    else (
      some ((-1), μ)))
def f_X11_judge_j95 (x0 x2 x4 x5 : Int) (μ : Mem) : Option (Int × Mem) :=
  if nrm x2 = 0 then (
    if nrm x5 = 0 then (
      some ((-1), μ))
    else (
      some (x4, μ)))
  else (
  if nrm x2 = 1 then (
    some (x5, μ))
  else (
  if nrm x2 = 2 then (
    some ((μ (x0 + 60) 1), μ))
  else (
  bn (f_X0_allDepths (x0 + 60) μ) fun r6 μ5 => (
  some (r6, μ5)))))
def f_X11_judge_j89 (k52 : Int → Int → Int → Int → Int → Int → Mem → Option (Int × Mem)) (x0 x2 x3 x4 x5 x6 : Int) (μ : Mem) : Option (Int × Mem) :=
  k52 x0 x2 x3 x4 x5 (x6 + 1) μ
def f_X11_judge_w52 : Nat → Int → Int → Int → Int → Int → Int → Mem → Option (Int × Mem)
  | 0, _, _, _, _, _, _, _ => none
  | n + 1, x0, x2, x3, x4, x5, x6, μ =>
  gd (isK x3 10) (
  if nrm (μ x3 1) ≤ nrm x6 then (
    f_X11_judge_j95 x0 x2 x4 x5 μ)
  else (
    if nrm x5 = 0 then (
      bn (f_X10_numberAt x3 x6 μ) fun r5 μ4 => (
      bn (f_X0_tryDeed (x0 + 60) r5 μ4) fun r8 μ7 => (
      if nrm r8 = 0 then (
        f_X11_judge_j89 (f_X11_judge_w52 n) x0 x2 x3 (x4 + 1) r8 x6 μ7)
      else (
        f_X11_judge_j89 (f_X11_judge_w52 n) x0 x2 x3 x4 r8 x6 μ7))))
    else (
      f_X11_judge_j95 x0 x2 x4 x5 μ)))
def f_X11_judge (x0 x1 x2 : Int) (μ : Mem) : Option (Int × Mem) :=
  bn (f_X11_trayOf x0 x1 μ) fun r2 μ1 => (
  if r2 < 0 then (
    some ((-2), μ1))
  else (
    if nrm x2 < 0 then (
      some ((-2), μ1))
    else (
      if nrm x2 ≤ nrm 3 then (
        gd (isK r2 10) (
        if nrm (μ1 r2 0) = 0 then (
          bn (f_X0_takeOver (x0 + 60) (x0 + 58) μ1) fun r10 μ9 => (
          f_X11_judge_w52 FU x0 x2 r2 0 0 0 μ9))
        else (
          some ((-6), μ1))))
      else (
        some ((-2), μ1)))))
def f_X11_perform_j65 (x0 x3 : Int) (μ : Mem) : Option (Int × Mem) :=
  if nrm x3 ≤ 0 then (
    some (x3, μ))
  else (
    bn (f_X2_keep (x0 + 62) (x0 + 60) μ) fun r3 μ2 => (
    some (x3, μ2)))
def f_X11_perform_w36 : Nat → Int → Int → Int → Mem → Option (Int × Mem)
  | 0, _, _, _, _ => none
  | n + 1, x0, x2, x3, μ =>
  gd (isK x2 10) (
  if nrm (μ x2 1) ≤ nrm x3 then (
    f_X11_perform_j65 x0 x3 μ)
  else (
    bn (f_X10_numberAt x2 x3 μ) fun r4 μ3 => (
    bn (f_X0_tryDeed (x0 + 58) r4 μ3) fun r7 μ6 => (
    if nrm r7 = 0 then (
      f_X11_perform_w36 n x0 x2 (x3 + 1) μ6)
    else (
      f_X11_perform_j65 x0 x3 μ6)))))
def f_X11_perform (x0 x1 : Int) (μ : Mem) : Option (Int × Mem) :=
  bn (f_X11_trayOf x0 x1 μ) fun r2 μ1 => (
  if r2 < 0 then (
    some ((-2), μ1))
  else (
    gd (isK r2 10) (
    if nrm (μ1 r2 0) = 0 then (
      bn (f_X0_takeOver (x0 + 60) (x0 + 58) μ1) fun r8 μ7 => (
      f_X11_perform_w36 FU x0 r2 0 μ7))
    else (
      some ((-6), μ1)))))
def f_X11_drawBehind (x0 : Int) (μ : Mem) : Option (Int × Mem) :=
  some (((1103515245 * x0) + 12345), μ)
def f_X11_drawnDeed (x0 x1 : Int) (μ : Mem) : Option (Int × Mem) :=
  if nrm x0 = 3 then (
    some ((10 + (jrem x1 9)), μ))
  else (
  if nrm x0 = 4 then (
    some ((20 + (jrem x1 9)), μ))
  else (
  if nrm x0 = 5 then (
    some ((30 + (jrem x1 10)), μ))
  else (
  if nrm x0 = 6 then (
    some ((40 + (jrem x1 8)), μ))
  else (
  some ((0 + (jrem x1 9)), μ)))))
def f_X11_year_j96 (k33 : Int → Int → Int → Int → Int → Mem → Option (Int × Mem)) (x0 x2 x3 x4 x5 : Int) (μ : Mem) : Option (Int × Mem) :=
  k33 x0 x2 x3 x4 (x5 + 1) μ
def f_X11_year_j80 (k33 : Int → Int → Int → Int → Int → Mem → Option (Int × Mem)) (x0 x2 x3 x4 x5 x7 : Int) (μ : Mem) : Option (Int × Mem) :=
  bn (f_X0_tryDeed (x0 + 58) (nrm x7) μ) fun r2 μ1 => (
  if nrm r2 = 0 then (
    f_X11_year_j96 k33 x0 x2 x3 (x4 + 1) x5 μ1)
  else (
    f_X11_year_j96 k33 x0 x2 x3 x4 x5 μ1))
def f_X11_year_w33 : Nat → Int → Int → Int → Int → Int → Mem → Option (Int × Mem)
  | 0, _, _, _, _, _, _ => none
  | n + 1, x0, x2, x3, x4, x5, μ =>
  if nrm x2 ≤ nrm x5 then (
    if nrm x4 ≤ 0 then (
      some (x4, μ))
    else (
      bn (f_X2_keep (x0 + 62) (x0 + 60) μ) fun r4 μ3 => (
      some (x4, μ3))))
  else (
    bn (f_X11_drawBehind x3 μ) fun r7 μ6 => (
    nm (jrem (jushr r7 16) 8) fun v9 => (
    if nrm v9 = nrm 7 then (
      f_X11_year_j80 (f_X11_year_w33 n) x0 x2 r7 x4 x5 50 μ6)
    else (
      bn (f_X11_drawBehind r7 μ6) fun r13 μ12 => (
      bn (f_X11_drawnDeed v9 (jushr r13 16) μ12) fun r16 μ15 => (
      f_X11_year_j80 (f_X11_year_w33 n) x0 x2 r13 x4 x5 r16 μ15))))))
def f_X11_year (x0 x1 x2 : Int) (μ : Mem) : Option (Int × Mem) :=
  if nrm x2 < nrm 1 then (
    some ((-3), μ))
  else (
    if nrm x2 ≤ nrm 40 then (
      bn (f_X0_takeOver (x0 + 60) (x0 + 58) μ) fun r4 μ3 => (
      f_X11_year_w33 FU x0 x2 x1 0 0 μ3))
    else (
      some ((-3), μ)))
def f_X11_reach (x0 : Int) (μ : Mem) : Option (Int × Mem) :=
  bn (f_X0_openLanes (x0 + 58) μ) fun r2 μ1 => (
  gd (isK (μ (x0 + 58) 0) 3) (
  bn (f_X3_comingFrom (μ (x0 + 58) 0) (μ (x0 + 58) 1) r2 μ1) fun r6 μ5 => (
  some (r6, μ5))))
def f_X11_soonest (x0 x1 : Int) (μ : Mem) : Option (Int × Mem) :=
  gd (isK (μ (x0 + 58) 0) 3) (
  bn (f_X3_hasPlace (μ (x0 + 58) 0) x1 μ) fun r3 μ2 => (
  if nrm r3 = 0 then (
    some ((-2), μ2))
  else (
    bn (f_X6_measureOpen (x0 + 98) (x0 + 58) x1 μ2) fun r7 μ6 => (
    bn (f_X6_farFrom (x0 + 98) (μ6 (x0 + 58) 1) μ6) fun r10 μ9 => (
    some (r10, μ9))))))
def f_X11_rows (x0 x1 x2 : Int) (μ : Mem) : Option (Int × Mem) :=
  gd (isK (μ (x0 + 58) 0) 3) (
  bn (f_X3_hasPlace (μ (x0 + 58) 0) x1 μ) fun r3 μ2 => (
  if nrm r3 = 0 then (
    some ((-2), μ2))
  else (
    if nrm x2 < 0 then (
      some ((-3), μ2))
    else (
      if nrm x2 ≤ nrm 6 then (
        bn (f_X6_measureOpen (x0 + 98) (x0 + 58) x1 μ2) fun r9 μ8 => (
        bn (f_X8_countRows (x0 + 101) (x0 + 58) (x0 + 98) x1 x2 μ8) fun r12 μ11 => (
        some (r12, μ11))))
      else (
        some ((-3), μ2))))))
def f_X11_way (x0 x1 x2 : Int) (μ : Mem) : Option (Int × Mem) :=
  gd (isK (μ (x0 + 58) 0) 3) (
  bn (f_X3_hasPlace (μ (x0 + 58) 0) x1 μ) fun r3 μ2 => (
  if nrm r3 = 0 then (
    some ((-2), μ2))
  else (
    if 0 ≤ nrm x2 then (
      bn (f_X6_measureOpen (x0 + 98) (x0 + 58) x1 μ2) fun r8 μ7 => (
      bn (f_X6_laneOnWay (x0 + 98) (μ7 (x0 + 58) 0) (μ7 (x0 + 58) 1) x2 μ7) fun r11 μ10 => (
      some (r11, μ10))))
    else (
      some ((-3), μ2)))))
def f_X11_toAndFro_w29 : Nat → Int → Int → Int → Int → Mem → Option (Int × Mem)
  | 0, _, _, _, _, _ => none
  | n + 1, x0, x1, x2, x3, μ =>
  if nrm 100 ≤ nrm x3 then (
    some (x3, μ))
  else (
    gd (isK (μ (x0 + 58) 0) 3) (
    bn (f_X3_mayGo (μ (x0 + 58) 0) x1 x2 (x0 + 58) μ) fun r4 μ3 => (
    if nrm r4 = 0 then (
      some (x3, μ3))
    else (
      gd (isK (μ3 (x0 + 58) 0) 3) (
      bn (f_X3_wornFrom (μ3 (x0 + 58) 0) x1 x2 (μ3 (x0 + 58) 2) μ3) fun r9 μ8 => (
      f_X11_toAndFro_w29 n x0 x1 r9 (x3 + 1) μ8))))))
def f_X11_toAndFro (x0 x1 : Int) (μ : Mem) : Option (Int × Mem) :=
  gd (isK (μ (x0 + 58) 0) 3) (
  bn (f_X3_hasLane (μ (x0 + 58) 0) x1 μ) fun r3 μ2 => (
  if nrm r3 = 0 then (
    some ((-2), μ2))
  else (
    gd (0 ≤ nrm x1 ∧ nrm x1 < 9) (
    nm (μ2 ((x0 + 58) + 1) (nrm x1)) fun v7 => (
    f_X11_toAndFro_w29 FU x0 x1 v7 0 μ2)))))
def f_X11_cheapest (x0 x1 x2 : Int) (μ : Mem) : Option (Int × Mem) :=
  gd (isK (μ (x0 + 58) 0) 3) (
  bn (f_X3_hasPlace (μ (x0 + 58) 0) x1 μ) fun r3 μ2 => (
  if nrm r3 = 0 then (
    some ((-2), μ2))
  else (
    if nrm x2 < 0 then (
      some ((-2), μ2))
    else (
      if nrm x2 ≤ nrm 1 then (
        bn (f_X6_measureFillings (x0 + 98) (x0 + 58) x1 μ2) fun r9 μ8 => (
        bn (f_X6_farFrom (x0 + 98) (μ8 (x0 + 58) 1) μ8) fun r12 μ11 => (
        if nrm r12 = nrm (-1) then (
          some ((-1), μ11))
        else (
          if nrm x2 = 0 then (
            bn (f_X6_fillingsIn r12 μ11) fun r20 μ19 => (
            some (r20, μ19)))
          else (
            bn (f_X6_lanesIn r12 μ11) fun r17 μ16 => (
            some (r17, μ16)))))))
      else (
        some ((-2), μ2))))))
def f_X11_cheapBy (x0 x1 x2 : Int) (μ : Mem) : Option (Int × Mem) :=
  gd (isK (μ (x0 + 58) 0) 3) (
  bn (f_X3_hasPlace (μ (x0 + 58) 0) x1 μ) fun r3 μ2 => (
  if nrm r3 = 0 then (
    some ((-2), μ2))
  else (
    if 0 ≤ nrm x2 then (
      bn (f_X6_measureFillings (x0 + 98) (x0 + 58) x1 μ2) fun r8 μ7 => (
      bn (f_X6_laneOnWay (x0 + 98) (μ7 (x0 + 58) 0) (μ7 (x0 + 58) 1) x2 μ7) fun r11 μ10 => (
      some (r11, μ10))))
    else (
      some ((-3), μ2)))))
def f_X11_joins (x0 x1 : Int) (μ : Mem) : Option (Int × Mem) :=
  if nrm x1 < 0 then (
    some ((-2), μ))
  else (
    if nrm x1 ≤ nrm 1 then (
      bn (f_X6_weighFillings (x0 + 98) (x0 + 58) μ) fun r4 μ3 => (
      bn (f_X6_leastJoining (x0 + 98) (μ3 (x0 + 58) 0) μ3) fun r7 μ6 => (
      if nrm r7 = nrm (-1) then (
        some ((-1), μ6))
      else (
        if nrm x1 = 0 then (
          bn (f_X6_weightOfAll (x0 + 98) (μ6 (x0 + 58) 0) r7 μ6) fun r12 μ11 => (
          bn (f_X6_fillingsIn r12 μ11) fun r15 μ14 => (
          some (r15, μ14))))
        else (
          some (r7, μ6))))))
    else (
      some ((-2), μ)))
def f_X11_leastShutting_j92 (k13 : Int → Int → Int → Int → Int → Mem → Option (Int × Mem)) (x0 x1 x2 x3 x4 : Int) (μ : Mem) : Option (Int × Mem) :=
  k13 x0 x1 x2 x3 (x4 + 1) μ
def f_X11_leastShutting_j52 (k13 : Int → Int → Int → Int → Int → Mem → Option (Int × Mem)) (x0 x1 x2 x3 x4 s0 : Int) (μ : Mem) : Option (Int × Mem) :=
  if nrm s0 = 0 then (
    f_X11_leastShutting_j92 k13 x0 x1 x2 x3 x4 μ)
  else (
    gd (isK (μ (x0 + 58) 0) 3) (
    bn (f_X3_comingFrom (μ (x0 + 58) 0) (μ (x0 + 58) 1) (jand x2 (jxor x4 (-1))) μ) fun r4 μ3 => (
    if nrm (jand (jshr r4 x1) 1) = 0 then (
      f_X11_leastShutting_j92 k13 x0 x1 x2 x4 x4 μ3)
    else (
      f_X11_leastShutting_j92 k13 x0 x1 x2 x3 x4 μ3))))
def f_X11_leastShutting_j47 (k13 : Int → Int → Int → Int → Int → Mem → Option (Int × Mem)) (x0 x1 x2 x3 x4 : Int) (μ : Mem) : Option (Int × Mem) :=
  f_X11_leastShutting_j52 k13 x0 x1 x2 x3 x4 1 μ
def f_X11_leastShutting_w13 : Nat → Int → Int → Int → Int → Int → Mem → Option (Int × Mem)
  | 0, _, _, _, _, _, _ => none
  | n + 1, x0, x1, x2, x3, x4, μ =>
  gd (isK (μ (x0 + 58) 0) 3) (
  if nrm (jshl 1 (μ (μ (x0 + 58) 0) 1)) ≤ nrm x4 then (
    some (x3, μ))
  else (
    if nrm x3 = nrm (-1) then (
      f_X11_leastShutting_j47 (f_X11_leastShutting_w13 n) x0 x1 x2 x3 x4 μ)
    else (
      bn (f_J6_bitCount_0f7a4 x4 μ) fun r5 μ4 => (
      bn (f_J6_bitCount_0f7a4 x3 μ4) fun r8 μ7 => (
      if nrm r8 ≤ nrm r5 then (
        f_X11_leastShutting_j52 (f_X11_leastShutting_w13 n) x0 x1 x2 x3 x4 0 μ7)
      else (
        f_X11_leastShutting_j47 (f_X11_leastShutting_w13 n) x0 x1 x2 x3 x4 μ7))))))
def f_X11_leastShutting (x0 x1 : Int) (μ : Mem) : Option (Int × Mem) :=
  bn (f_X0_openLanes (x0 + 58) μ) fun r2 μ1 => (
  f_X11_leastShutting_w13 FU x0 x1 r2 (-1) 0 μ1)
def f_X11_shuts (x0 x1 x2 : Int) (μ : Mem) : Option (Int × Mem) :=
  gd (isK (μ (x0 + 58) 0) 3) (
  bn (f_X3_hasPlace (μ (x0 + 58) 0) x1 μ) fun r3 μ2 => (
  if nrm r3 = 0 then (
    some ((-2), μ2))
  else (
    if nrm x2 < 0 then (
      some ((-2), μ2))
    else (
      if nrm x2 ≤ nrm 1 then (
        bn (f_X11_leastShutting x0 x1 μ2) fun r9 μ8 => (
        if nrm r9 = nrm (-1) then (
          some ((-1), μ8))
        else (
          if nrm x2 = 0 then (
            bn (f_J6_bitCount_0f7a4 r9 μ8) fun r14 μ13 => (
            some (r14, μ13)))
          else (
            some (r9, μ8)))))
      else (
        some ((-2), μ2))))))
def f_X11_seasonsOfTurning_w10 : Nat → Int → Int → Int → Mem → Option (Int × Mem)
  | 0, _, _, _, _ => none
  | n + 1, x0, x1, x2, μ =>
  if nrm 8 < nrm x2 then (
    some (8, μ))
  else (
    gd (isK (μ (x0 + 58) 0) 3) (
    bn (f_X3_backBehindSeason (μ (x0 + 58) 0) x1 μ) fun r4 μ3 => (
    if nrm r4 = nrm x1 then (
      some (x2, μ3))
    else (
      f_X11_seasonsOfTurning_w10 n x0 r4 (x2 + 1) μ3))))
def f_X11_seasonsOfTurning (x0 : Int) (μ : Mem) : Option (Int × Mem) :=
  nm (μ (x0 + 58) 3) fun v1 => (
  f_X11_seasonsOfTurning_w10 FU x0 v1 0 μ)
def f_X11_turning (x0 x1 : Int) (μ : Mem) : Option (Int × Mem) :=
  if nrm x1 < 0 then (
    some ((-2), μ))
  else (
    if nrm x1 ≤ nrm 1 then (
      if nrm x1 = 0 then (
        gd (isK (μ (x0 + 58) 0) 3) (
        bn (f_X3_backInTheEnd (μ (x0 + 58) 0) (μ (x0 + 58) 3) μ) fun r9 μ8 => (
        some (r9, μ8))))
      else (
        bn (f_X11_seasonsOfTurning x0 μ) fun r5 μ4 => (
        some (r5, μ4))))
    else (
      some ((-2), μ)))
def f_X11_when_w47 : Nat → Int → Int → Int → Int → Mem → Option (Int × Mem)
  | 0, _, _, _, _, _ => none
  | n + 1, x0, x1, x2, x3, μ =>
  if nrm 8 < nrm x3 then (
    some ((-1), μ))
  else (
    gd (isK (μ (x0 + 58) 0) 3) (
    bn (f_X3_backBehindSeason (μ (x0 + 58) 0) x2 μ) fun r4 μ3 => (
    if nrm (jand (jshr r4 x1) 1) = 0 then (
      f_X11_when_w47 n x0 x1 r4 (x3 + 1) μ3)
    else (
      some (x3, μ3)))))
def f_X11_when (x0 x1 : Int) (μ : Mem) : Option (Int × Mem) :=
  if nrm x1 < 0 then (
    some ((-2), μ))
  else (
    gd (isK (μ (x0 + 58) 0) 3) (
    if nrm x1 < nrm (μ (μ (x0 + 58) 0) 2) then (
      if nrm (jand (jshr (μ (x0 + 58) 3) x1) 1) = 0 then (
        nm (μ (x0 + 58) 3) fun v5 => (
        f_X11_when_w47 FU x0 x1 v5 1 μ))
      else (
        some ((-1), μ)))
    else (
      some ((-2), μ))))
def f_X11_leastStarting_j94 (k29 : Int → Int → Int → Int → Mem → Option (Int × Mem)) (x0 x1 x2 x3 : Int) (μ : Mem) : Option (Int × Mem) :=
  k29 x0 x1 x2 (x3 + 1) μ
def f_X11_leastStarting_j62 (k29 : Int → Int → Int → Int → Mem → Option (Int × Mem)) (x0 x1 x2 x3 s0 : Int) (μ : Mem) : Option (Int × Mem) :=
  if nrm s0 = 0 then (
    f_X11_leastStarting_j94 k29 x0 x1 x2 x3 μ)
  else (
    gd (isK (μ (x0 + 58) 0) 3) (
    bn (f_X3_backInTheEnd (μ (x0 + 58) 0) (jor (μ (x0 + 58) 3) x3) μ) fun r4 μ3 => (
    if nrm r4 = nrm x1 then (
      f_X11_leastStarting_j94 k29 x0 x1 x3 x3 μ3)
    else (
      f_X11_leastStarting_j94 k29 x0 x1 x2 x3 μ3))))
def f_X11_leastStarting_j61 (k29 : Int → Int → Int → Int → Mem → Option (Int × Mem)) (x0 x1 x2 x3 : Int) (μ : Mem) : Option (Int × Mem) :=
  f_X11_leastStarting_j62 k29 x0 x1 x2 x3 0 μ
def f_X11_leastStarting_w29 : Nat → Int → Int → Int → Int → Mem → Option (Int × Mem)
  | 0, _, _, _, _, _ => none
  | n + 1, x0, x1, x2, x3, μ =>
  if nrm x1 < nrm x3 then (
    some (x2, μ))
  else (
    if nrm (jand x3 (μ (x0 + 58) 3)) = 0 then (
      bn (f_J6_bitCount_0f7a4 x3 μ) fun r4 μ3 => (
      bn (f_J6_bitCount_0f7a4 x2 μ3) fun r7 μ6 => (
      if nrm r7 ≤ nrm r4 then (
        f_X11_leastStarting_j61 (f_X11_leastStarting_w29 n) x0 x1 x2 x3 μ6)
      else (
        f_X11_leastStarting_j62 (f_X11_leastStarting_w29 n) x0 x1 x2 x3 1 μ6))))
    else (
      f_X11_leastStarting_j61 (f_X11_leastStarting_w29 n) x0 x1 x2 x3 μ))
def f_X11_leastStarting (x0 : Int) (μ : Mem) : Option (Int × Mem) :=
  gd (isK (μ (x0 + 58) 0) 3) (
  nm ((jshl 1 (μ (μ (x0 + 58) 0) 2)) - 1) fun v2 => (
  nm (jand v2 (jxor (μ (x0 + 58) 3) (-1))) fun v4 => (
  f_X11_leastStarting_w29 FU x0 v2 v4 0 μ)))
def f_X11_starts (x0 x1 : Int) (μ : Mem) : Option (Int × Mem) :=
  if nrm x1 < 0 then (
    some ((-2), μ))
  else (
    if nrm x1 ≤ nrm 1 then (
      bn (f_X11_leastStarting x0 μ) fun r4 μ3 => (
      if nrm x1 = 0 then (
        bn (f_J6_bitCount_0f7a4 r4 μ3) fun r8 μ7 => (
        some (r8, μ7)))
      else (
        some (r4, μ3))))
    else (
      some ((-2), μ)))
def f_X11_whyNotWorn_w39 : Nat → Int → Int → Int → Mem → Option (Int × Mem)
  | 0, _, _, _, _ => none
  | n + 1, x0, x1, x2, μ =>
  gd (isK x1 10) (
  if nrm (μ x1 1) ≤ nrm x2 then (
    some (0, μ))
  else (
    bn (f_X10_numberAt x1 x2 μ) fun r4 μ3 => (
    if nrm (kcmp r4 0) < 0 then (
      some ((-3), μ3))
    else (
      gd (isK (μ3 (x0 + 58) 0) 3) (
      if 0 ≤ nrm (kcmp (kdiv r4 10) (nrm (μ3 (μ3 (x0 + 58) 0) 1))) then (
        some ((-3), μ3))
      else (
        if nrm (kcmp (krem r4 10) 6) ≤ 0 then (
          f_X11_whyNotWorn_w39 n x0 x1 (x2 + 1) μ3)
        else (
          some ((-3), μ3))))))))
def f_X11_whyNotWorn (x0 x1 : Int) (μ : Mem) : Option (Int × Mem) :=
  if x1 < 0 then (
    some ((-2), μ))
  else (
    gd (isK x1 10) (
    if nrm (μ x1 0) = 0 then (
      if nrm (μ x1 1) < nrm 1 then (
        some ((-4), μ))
      else (
        if nrm (μ x1 1) ≤ nrm 8 then (
          f_X11_whyNotWorn_w39 FU x0 x1 0 μ)
        else (
          some ((-4), μ))))
    else (
      some ((-6), μ))))
def f_X11_wornByRain (x0 x1 x2 : Int) (μ : Mem) : Option (Int × Mem) :=
  bn (f_X0_depthOf (x0 + 58) x1 μ) fun r2 μ1 => (
  gd (isK (μ (x0 + 58) 0) 3) (
  bn (f_X3_wornFrom (μ (x0 + 58) 0) x1 r2 x2 μ1) fun r6 μ5 => (
  some (r6, μ5))))
def f_X11_rainsBy_j85 (k4 : Int → Int → Int → Int → Mem → Option (Int × Mem)) (x0 x1 x2 x3 : Int) (μ : Mem) : Option (Int × Mem) :=
  k4 x0 x1 x2 (x3 + 1) μ
def f_X11_rainsBy_j74 (k4 : Int → Int → Int → Int → Mem → Option (Int × Mem)) (x0 x1 x2 x3 x4 : Int) (μ : Mem) : Option (Int × Mem) :=
  if nrm x4 = 0 then (
    f_X11_rainsBy_j85 k4 x0 x1 x2 x3 μ)
  else (
    nm (jor x2 (jshl 1 x3)) fun v2 => (
    f_X11_rainsBy_j85 k4 x0 x1 v2 x3 μ))
def f_X11_rainsBy_j66 (k4 : Int → Int → Int → Int → Mem → Option (Int × Mem)) (k16 : Int → Int → Int → Int → Int → Int → Mem → Option (Int × Mem)) (x0 x1 x2 x3 x5 s0 : Int) (μ : Mem) : Option (Int × Mem) :=
  k16 x0 x1 x2 x3 s0 (x5 + 1) μ
def f_X11_rainsBy_w16 (k4 : Int → Int → Int → Int → Mem → Option (Int × Mem)) : Nat → Int → Int → Int → Int → Int → Int → Mem → Option (Int × Mem)
  | 0, _, _, _, _, _, _, _ => none
  | n + 1, x0, x1, x2, x3, x4, x5, μ =>
  gd (isK x1 10) (
  if nrm (μ x1 1) ≤ nrm x5 then (
    f_X11_rainsBy_j74 k4 x0 x1 x2 x3 x4 μ)
  else (
    if nrm x4 = 0 then (
      f_X11_rainsBy_j74 k4 x0 x1 x2 x3 x4 μ)
    else (
      bn (f_X10_numberAt x1 x5 μ) fun r5 μ4 => (
      bn (f_X11_wornByRain x0 (kdiv r5 10) x3 μ4) fun r8 μ7 => (
      if nrm (kcmp (nrm r8) (krem r5 10)) = 0 then (
        f_X11_rainsBy_j66 k4 (f_X11_rainsBy_w16 k4 n) x0 x1 x2 x3 x5 1 μ7)
      else (
        f_X11_rainsBy_j66 k4 (f_X11_rainsBy_w16 k4 n) x0 x1 x2 x3 x5 0 μ7))))))
def f_X11_rainsBy_w4 : Nat → Int → Int → Int → Int → Mem → Option (Int × Mem)
  | 0, _, _, _, _, _ => none
  | n + 1, x0, x1, x2, x3, μ =>
  if nrm 9 < nrm x3 then (
    some (x2, μ))
  else (
    f_X11_rainsBy_w16 (f_X11_rainsBy_w4 n) FU x0 x1 x2 x3 1 0 μ)
def f_X11_rainsBy (x0 x1 : Int) (μ : Mem) : Option (Int × Mem) :=
  f_X11_rainsBy_w4 FU x0 x1 0 0 μ
def f_X11_rains (x0 x1 : Int) (μ : Mem) : Option (Int × Mem) :=
  bn (f_X11_trayOf x0 x1 μ) fun r2 μ1 => (
  bn (f_X11_whyNotWorn x0 r2 μ1) fun r5 μ4 => (
  if nrm r5 = 0 then (
    bn (f_X11_rainsBy x0 r2 μ4) fun r9 μ8 => (
    some (r9, μ8)))
  else (
    some (r5, μ4))))
def f_X11_mostAlike_w47 : Nat → Int → Int → Int → Mem → Option (Int × Mem)
  | 0, _, _, _, _ => none
  | n + 1, x3, x4, x5, μ =>
  if nrm 6 < nrm x5 then (
    some (x4, μ))
  else (
    bn (f_J9_max_7cf53 x4 (jand (jshr x3 (4 * x5)) 15) μ) fun r3 μ2 => (
    f_X11_mostAlike_w47 n x3 r3 (x5 + 1) μ2))
def f_X11_mostAlike_j35 (k5 : Int → Int → Int → Int → Int → Mem → Option (Int × Mem)) (x0 x1 x2 x3 x4 : Int) (μ : Mem) : Option (Int × Mem) :=
  k5 x0 x1 x2 x3 (x4 + 1) μ
def f_X11_mostAlike_w5 : Nat → Int → Int → Int → Int → Int → Mem → Option (Int × Mem)
  | 0, _, _, _, _, _, _ => none
  | n + 1, x0, x1, x2, x3, x4, μ =>
  if nrm 9 < nrm x4 then (
    f_X11_mostAlike_w47 FU x3 0 0 μ)
  else (
    if nrm (jand (jshr x2 x4) 1) = 0 then (
      f_X11_mostAlike_j35 (f_X11_mostAlike_w5 n) x0 x1 x2 x3 x4 μ)
    else (
      bn (f_X11_wornByRain x0 x1 x4 μ) fun r4 μ3 => (
      nm (x3 + (jshl 1 (4 * r4))) fun v6 => (
      f_X11_mostAlike_j35 (f_X11_mostAlike_w5 n) x0 x1 x2 v6 x4 μ3))))
def f_X11_mostAlike (x0 x1 x2 : Int) (μ : Mem) : Option (Int × Mem) :=
  f_X11_mostAlike_w5 FU x0 x1 x2 0 0 μ
def f_X11_attempt_j85 (k34 : Int → Int → Int → Int → Int → Mem → Option (Int × Mem)) (x0 x4 x5 x6 x7 : Int) (μ : Mem) : Option (Int × Mem) :=
  k34 x0 x4 x5 x6 (x7 + 1) μ
def f_X11_attempt_j77 (k34 : Int → Int → Int → Int → Int → Mem → Option (Int × Mem)) (x0 x4 x7 x8 : Int) (μ : Mem) : Option (Int × Mem) :=
  f_X11_attempt_j85 k34 x0 x4 x7 x8 x7 μ
def f_X11_attempt_w34 : Nat → Int → Int → Int → Int → Int → Mem → Option (Int × Mem)
  | 0, _, _, _, _, _, _ => none
  | n + 1, x0, x4, x5, x6, x7, μ =>
  if nrm x4 = 0 then (
    some (x5, μ))
  else (
    gd (isK (μ (x0 + 58) 0) 3) (
    if nrm (μ (μ (x0 + 58) 0) 1) ≤ nrm x7 then (
      some (x5, μ))
    else (
      bn (f_X11_mostAlike x0 x7 x4 μ) fun r5 μ4 => (
      if nrm x5 = nrm (-1) then (
        f_X11_attempt_j77 (f_X11_attempt_w34 n) x0 x4 x7 r5 μ4)
      else (
        if nrm x6 ≤ nrm r5 then (
          f_X11_attempt_j85 (f_X11_attempt_w34 n) x0 x4 x5 x6 x7 μ4)
        else (
          f_X11_attempt_j77 (f_X11_attempt_w34 n) x0 x4 x7 r5 μ4))))))
def f_X11_attempt (x0 x1 : Int) (μ : Mem) : Option (Int × Mem) :=
  bn (f_X11_trayOf x0 x1 μ) fun r2 μ1 => (
  bn (f_X11_whyNotWorn x0 r2 μ1) fun r5 μ4 => (
  if nrm r5 = 0 then (
    bn (f_X11_rainsBy x0 r2 μ4) fun r9 μ8 => (
    f_X11_attempt_w34 FU x0 r9 (-1) 0 0 μ8))
  else (
    some (r5, μ4))))
def f_X11_wins (x0 : Int) (μ : Mem) : Option (Int × Mem) :=
  bn (f_X1_firstWinning (x0 + 106) (x0 + 58) μ) fun r2 μ1 => (
  if nrm r2 = nrm (-1) then (
    some (0, μ1))
  else (
    some (1, μ1)))
def f_X11_best (x0 : Int) (μ : Mem) : Option (Int × Mem) :=
  bn (f_X1_firstWinning (x0 + 106) (x0 + 58) μ) fun r2 μ1 => (
  some (r2, μ1))
def f_X11_chance (x0 x1 x2 x3 : Int) (μ : Mem) : Option (Int × Mem) :=
  gd (isK (μ (x0 + 58) 0) 3) (
  bn (f_X3_hasPlace (μ (x0 + 58) 0) x1 μ) fun r3 μ2 => (
  if nrm r3 = 0 then (
    some ((-2), μ2))
  else (
    if nrm x3 < 0 then (
      some ((-2), μ2))
    else (
      if nrm x3 ≤ nrm 1 then (
        if nrm x2 < 0 then (
          some ((-3), μ2))
        else (
          if nrm x2 ≤ nrm 7 then (
            bn (f_X5_weigh (x0 + 108) (x0 + 58) x1 x2 μ2) fun r11 μ10 => (
            bn (f_X5_aboveAt (x0 + 108) (μ10 (x0 + 58) 1) μ10) fun r14 μ13 => (
            bn (f_X5_belowAll (x0 + 108) μ13) fun r17 μ16 => (
            bn (f_X5_commonOf r14 r17 μ16) fun r20 μ19 => (
            if nrm 1 ≤ nrm r20 then (
              if nrm x3 = 0 then (
                gd (nrm r20 ≠ 0) (
                some ((jdiv r14 r20), μ19)))
              else (
                gd (nrm r20 ≠ 0) (
                some ((jdiv r17 r20), μ19))))
            else (
              some ((-1), μ19)))))))
          else (
            some ((-3), μ2))))
      else (
        some ((-2), μ2))))))
def f_X11_bestBy (x0 x1 x2 : Int) (μ : Mem) : Option (Int × Mem) :=
  gd (isK (μ (x0 + 58) 0) 3) (
  bn (f_X3_hasPlace (μ (x0 + 58) 0) x1 μ) fun r3 μ2 => (
  if nrm r3 = 0 then (
    some ((-2), μ2))
  else (
    if nrm x2 < 0 then (
      some ((-3), μ2))
    else (
      if nrm x2 ≤ nrm 7 then (
        if nrm (μ2 (x0 + 58) 1) = nrm x1 then (
          some ((-1), μ2))
        else (
          bn (f_X5_firstLikeliest (x0 + 108) (x0 + 58) x1 x2 μ2) fun r10 μ9 => (
          some (r10, μ9))))
      else (
        some ((-3), μ2))))))
def f_X11_numbers (x0 x1 x2 x3 : Int) (μ : Mem) : Option (Int × Mem) :=
  bn (f_X11_trayOf x0 x1 μ) fun r2 μ1 => (
  if r2 < 0 then (
    some ((-2), μ1))
  else (
    if nrm x2 < 0 then (
      some ((-2), μ1))
    else (
      if nrm x2 ≤ nrm 3 then (
        if nrm x3 < 0 then (
          some ((-3), μ1))
        else (
          if nrm x3 ≤ nrm 40 then (
            gd (isK r2 10) (
            bn (f_X10_makeNew r2 x2 x3 μ1) fun r11 μ10 => (
            some (0, μ10))))
          else (
            some ((-3), μ1))))
      else (
        some ((-2), μ1)))))
def f_X11_write (x0 x1 x2 x3 : Int) (μ : Mem) : Option (Int × Mem) :=
  bn (f_X11_trayOf x0 x1 μ) fun r2 μ1 => (
  if r2 < 0 then (
    some ((-2), μ1))
  else (
    gd (isK r2 10) (
    if nrm (μ1 r2 0) = 0 then (
      if nrm x2 < 0 then (
        some ((-7), μ1))
      else (
        if nrm x2 < nrm (μ1 r2 1) then (
          bn (f_X10_put r2 x2 x3 μ1) fun r10 μ9 => (
          bn (f_X10_numberAt r2 x2 μ9) fun r13 μ12 => (
          some (r13, μ12))))
        else (
          some ((-7), μ1))))
    else (
      some ((-6), μ1)))))
def f_X11_lists_w91 : Nat → Int → Int → Int → Int → Mem → Option (Int × Mem)
  | 0, _, _, _, _, _ => none
  | n + 1, x0, x3, x5, x6, μ =>
  if nrm x5 ≤ nrm x6 then (
    some (x5, μ))
  else (
    bn (f_X6_laneOnWay (x0 + 98) (μ (x0 + 58) 0) (μ (x0 + 58) 1) x6 μ) fun r3 μ2 => (
    gd (isK x3 10) (
    bn (f_X10_put x3 x6 (nrm r3) μ2) fun r7 μ6 => (
    f_X11_lists_w91 n x0 x3 x5 (x6 + 1) μ6))))
def f_X11_lists (x0 x1 x2 : Int) (μ : Mem) : Option (Int × Mem) :=
  bn (f_X11_trayOf x0 x1 μ) fun r2 μ1 => (
  if r2 < 0 then (
    some ((-2), μ1))
  else (
    gd (isK (μ1 (x0 + 58) 0) 3) (
    bn (f_X3_hasPlace (μ1 (x0 + 58) 0) x2 μ1) fun r7 μ6 => (
    if nrm r7 = 0 then (
      some ((-2), μ6))
    else (
      gd (isK r2 10) (
      if nrm (μ6 r2 0) = 0 then (
        bn (f_X6_measureFillings (x0 + 98) (x0 + 58) x2 μ6) fun r13 μ12 => (
        bn (f_X6_farFrom (x0 + 98) (μ12 (x0 + 58) 1) μ12) fun r16 μ15 => (
        if nrm r16 = nrm (-1) then (
          some ((-5), μ15))
        else (
          bn (f_X6_lanesIn r16 μ15) fun r20 μ19 => (
          bn (f_J9_min_7cf53 r20 (μ19 r2 1) μ19) fun r23 μ22 => (
          f_X11_lists_w91 FU x0 r2 r23 0 μ22))))))
      else (
        some ((-6), μ6))))))))
def f_X11_pictureOf (x0 x1 : Int) (μ : Mem) : Option (Int × Mem) :=
  if nrm x1 < 0 then (
    some ((-1), μ))
  else (
    if nrm x1 < nrm 2 then (
      gd (0 ≤ nrm x1 ∧ nrm x1 < 2) (
      some (((x0 + 84) + 1 + 2 * (nrm x1)), μ)))
    else (
      some ((-1), μ)))
def f_X11_image (x0 x1 : Int) (μ : Mem) : Option (Int × Mem) :=
  bn (f_X11_pictureOf x0 x1 μ) fun r2 μ1 => (
  if r2 < 0 then (
    some ((-2), μ1))
  else (
    gd (isK r2 0) (
    bn (f_X0_takeOver r2 (x0 + 58) μ1) fun r7 μ6 => (
    nm (ms μ6 x0 10 (jor (μ6 x0 10) (jshl 1 x1))) fun μ9 => (
    some (0, μ9))))))
def f_X11_restore (x0 x1 : Int) (μ : Mem) : Option (Int × Mem) :=
  bn (f_X11_pictureOf x0 x1 μ) fun r2 μ1 => (
  if r2 < 0 then (
    some ((-2), μ1))
  else (
    if nrm (jand (jshr (μ1 x0 10) x1) 1) = 0 then (
      some ((-5), μ1))
    else (
      bn (f_X0_takeOver (x0 + 58) r2 μ1) fun r7 μ6 => (
      bn (f_X2_forgetAll (x0 + 62) μ6) fun r10 μ9 => (
      some (0, μ9))))))
def f_X11_count (x0 x1 : Int) (μ : Mem) : Option (Int × Mem) :=
  if nrm x1 = 0 then (
    gd (isK (μ (x0 + 58) 0) 3) (
    some ((μ (μ (x0 + 58) 0) 0), μ)))
  else (
  if nrm x1 = 1 then (
    gd (isK (μ (x0 + 58) 0) 3) (
    some ((μ (μ (x0 + 58) 0) 1), μ)))
  else (
  if nrm x1 = 2 then (
    gd (isK (μ (x0 + 58) 0) 3) (
    some ((μ (μ (x0 + 58) 0) 2), μ)))
  else (
  if nrm x1 = 3 then (
    some ((μ (x0 + 58) 1), μ))
  else (
  if nrm x1 = 4 then (
    gd (isK (μ (x0 + 58) 0) 3) (
    some ((μ (μ (x0 + 58) 0) 5), μ)))
  else (
  if nrm x1 = 5 then (
    some ((μ (x0 + 58) 2), μ))
  else (
  if nrm x1 = 6 then (
    some ((μ (x0 + 58) 3), μ))
  else (
  if nrm x1 = 7 then (
    bn (f_X0_allDepths (x0 + 58) μ) fun r14 μ13 => (
    some (r14, μ13)))
  else (
  if nrm x1 = 8 then (
    some ((μ (x0 + 58) 4), μ))
  else (
  if nrm x1 = 9 then (
    bn (f_X2_kept (x0 + 62) μ) fun r19 μ18 => (
    some (r19, μ18)))
  else (
  if nrm x1 = 10 then (
    some ((μ x0 1), μ))
  else (
  if nrm x1 = 11 then (
    gd (isK (μ (x0 + 58) 0) 3) (
    some ((μ (μ (x0 + 58) 0) 3), μ)))
  else (
  some ((-1), μ)))))))))))))
def f_X12_within (x0 x2 x4 : Int) (μ : Mem) : Option (Int × Mem) :=
  if nrm (kcmp x0 x2) < 0 then (
    some (0, μ))
  else (
    if 0 < nrm (kcmp x0 x4) then (
      some (0, μ))
    else (
      some (1, μ)))
def f_X12_plain_w2 : Nat → Int → Int → Mem → Option (Int × Mem)
  | 0, _, _, _ => none
  | n + 1, x0, x1, μ =>
  if nrm 1100 ≤ nrm x1 then (
    gd (isA x0 1 ∧ 0 ≤ nrm 1 ∧ nrm 1 < aln x0) (
    nm (ms μ x0 (nrm 1) 1) fun μ2 => (
    some (0, μ2))))
  else (
    gd (isA x0 1 ∧ 0 ≤ nrm x1 ∧ nrm x1 < aln x0) (
    nm (ms μ x0 (nrm x1) 0) fun μ5 => (
    f_X12_plain_w2 n x0 (x1 + 1) μ5)))
def f_X12_plain (x0 : Int) (μ : Mem) : Option (Int × Mem) :=
  f_X12_plain_w2 FU x0 0 μ
def f_X12_feed_j77 (k24 : Int → Int → Int → Int → Int → Int → Int → Mem → Option (Int × Mem)) (x0 x1 x2 x3 x4 x5 x6 s0 : Int) (μ : Mem) : Option (Int × Mem) :=
  gd (0 ≤ nrm (μ x0 5) ∧ nrm (μ x0 5) < 900) (
  nm (ms μ (x0 + 3) (nrm (μ x0 5)) (jand (jshr s0 (24 - (8 * (jrem x6 4)))) 255)) fun μ1 => (
  nm (ms μ1 x0 5 ((μ1 x0 5) + 1)) fun μ4 => (
  k24 x0 x1 x2 x3 x4 x5 (x6 + 1) μ4)))
def f_X12_feed_w24 : Nat → Int → Int → Int → Int → Int → Int → Int → Mem → Option (Int × Mem)
  | 0, _, _, _, _, _, _, _, _ => none
  | n + 1, x0, x1, x2, x3, x4, x5, x6, μ =>
  if nrm 20 ≤ nrm x6 then (
    some ((μ x0 5), μ))
  else (
    if nrm 4 ≤ nrm x6 then (
      if nrm 8 ≤ nrm x6 then (
        if nrm 12 ≤ nrm x6 then (
          if nrm 16 ≤ nrm x6 then (
            f_X12_feed_j77 (f_X12_feed_w24 n) x0 x1 x2 x3 x4 x5 x6 x5 μ)
          else (
            f_X12_feed_j77 (f_X12_feed_w24 n) x0 x1 x2 x3 x4 x5 x6 x4 μ))
        else (
          f_X12_feed_j77 (f_X12_feed_w24 n) x0 x1 x2 x3 x4 x5 x6 x3 μ))
      else (
        f_X12_feed_j77 (f_X12_feed_w24 n) x0 x1 x2 x3 x4 x5 x6 x2 μ))
    else (
      f_X12_feed_j77 (f_X12_feed_w24 n) x0 x1 x2 x3 x4 x5 x6 x1 μ))
def f_X12_feed (x0 x1 x2 x3 x4 x5 : Int) (μ : Mem) : Option (Int × Mem) :=
  nm (ms μ x0 0 0) fun μ1 => (
  if nrm ((μ1 x0 5) + 20) ≤ nrm 900 then (
    f_X12_feed_w24 FU x0 x1 x2 x3 x4 x5 0 μ1)
  else (
    some ((-5), μ1)))
def f_X12_see (x0 x1 : Int) (μ : Mem) : Option (Int × Mem) :=
  if nrm (μ x0 8) ≤ nrm x1 then (
    some ((-1), μ))
  else (
    gd (0 ≤ nrm x1 ∧ nrm x1 < 900) (
    some ((μ (x0 + 3) (nrm x1)), μ)))
def f_X12_isSmall (x0 : Int) (μ : Mem) : Option (Int × Mem) :=
  if nrm x0 < nrm 97 then (
    some (0, μ))
  else (
    if nrm 122 < nrm x0 then (
      some (0, μ))
    else (
      some (1, μ)))
def f_X12_isDigit (x0 : Int) (μ : Mem) : Option (Int × Mem) :=
  if nrm x0 < nrm 48 then (
    some (0, μ))
  else (
    if nrm 57 < nrm x0 then (
      some (0, μ))
    else (
      some (1, μ)))
def f_X12_keyAt_w97 (k4 : Int → Int → Int → Mem → Option (Int × Mem)) : Nat → Int → Int → Int → Mem → Option (Int × Mem)
  | 0, _, _, _, _ => none
  | n + 1, x0, x1, x2, μ =>
  gd (0 ≤ nrm x2 ∧ nrm x2 < 108) (
  if nrm (sch 2 (nrm x2)) = nrm 32 then (
    k4 x0 (x1 + 1) (x2 + 1) μ)
  else (
    f_X12_keyAt_w97 k4 n x0 x1 (x2 + 1) μ))
def f_X12_keyAt_j69 (k4 : Int → Int → Int → Mem → Option (Int × Mem)) (x0 x1 x2 x3 : Int) (μ : Mem) : Option (Int × Mem) :=
  gd (0 ≤ nrm (x2 + x3) ∧ nrm (x2 + x3) < 108) (
  if nrm (sch 2 (nrm (x2 + x3))) = nrm 32 then (
    if nrm ((μ x0 6) + x3) = nrm (μ x0 7) then (
      some (x1, μ))
    else (
      f_X12_keyAt_w97 k4 FU x0 x1 x2 μ))
  else (
    f_X12_keyAt_w97 k4 FU x0 x1 x2 μ))
def f_X12_keyAt_w15 (k4 : Int → Int → Int → Mem → Option (Int × Mem)) : Nat → Int → Int → Int → Int → Mem → Option (Int × Mem)
  | 0, _, _, _, _, _ => none
  | n + 1, x0, x1, x2, x3, μ =>
  gd (0 ≤ nrm (x2 + x3) ∧ nrm (x2 + x3) < 108) (
  if nrm (sch 2 (nrm (x2 + x3))) = nrm 32 then (
    f_X12_keyAt_j69 k4 x0 x1 x2 x3 μ)
  else (
    if nrm (μ x0 7) ≤ nrm ((μ x0 6) + x3) then (
      f_X12_keyAt_j69 k4 x0 x1 x2 x3 μ)
    else (
      gd (0 ≤ nrm ((μ x0 6) + x3) ∧ nrm ((μ x0 6) + x3) < 900) (
      gd (0 ≤ nrm (x2 + x3) ∧ nrm (x2 + x3) < 108) (
      if nrm (μ (x0 + 3) (nrm ((μ x0 6) + x3))) = nrm (sch 2 (nrm (x2 + x3))) then (
        f_X12_keyAt_w15 k4 n x0 x1 x2 (x3 + 1) μ)
      else (
        f_X12_keyAt_j69 k4 x0 x1 x2 x3 μ))))))
def f_X12_keyAt_w4 : Nat → Int → Int → Int → Mem → Option (Int × Mem)
  | 0, _, _, _, _ => none
  | n + 1, x0, x1, x2, μ =>
  if nrm 108 ≤ nrm x2 then (
    some (22, μ))
  else (
    f_X12_keyAt_w15 (f_X12_keyAt_w4 n) FU x0 x1 x2 0 μ)
def f_X12_keyAt (x0 : Int) (μ : Mem) : Option (Int × Mem) :=
  f_X12_keyAt_w4 FU x0 0 1 μ
def f_X12_next_j34 (k8 : Int → Mem → Option (Int × Mem)) (x0 : Int) (μ : Mem) : Option (Int × Mem) :=
  nm (ms μ x0 6 ((μ x0 6) + 1)) fun μ1 => (
  k8 x0 μ1)
def f_X12_next_j288 (k254 : Int → Int → Mem → Option (Int × Mem)) (x0 x1 : Int) (μ : Mem) : Option (Int × Mem) :=
  k254 x0 (x1 + 1) μ
def f_X12_next_w254 : Nat → Int → Int → Mem → Option (Int × Mem)
  | 0, _, _, _ => none
  | n + 1, x0, x1, μ =>
  if nrm 12 ≤ nrm x1 then (
    some (0, μ))
  else (
    bn (f_X12_see x0 (μ x0 6) μ) fun r3 μ2 => (
    gd (0 ≤ nrm x1 ∧ nrm x1 < 12) (
    if nrm r3 = nrm (sch 1 (nrm x1)) then (
      nm (ms μ2 x0 9 (30 + x1)) fun μ7 => (
      f_X12_next_j288 (f_X12_next_w254 n) x0 x1 μ7))
    else (
      f_X12_next_j288 (f_X12_next_w254 n) x0 x1 μ2))))
def f_X12_next_j230 (s0 s1 : Int) (μ : Mem) : Option (Int × Mem) :=
  gd (isK s0 12) (
  nm (ms μ s0 9 s1) fun μ2 => (
  some (0, μ2)))
def f_X12_next_j196 (k146 : Int → Mem → Option (Int × Mem)) (x0 : Int) (μ : Mem) : Option (Int × Mem) :=
  nm (ms μ x0 7 ((μ x0 7) + 1)) fun μ1 => (
  k146 x0 μ1)
def f_X12_next_w146 : Nat → Int → Mem → Option (Int × Mem)
  | 0, _, _ => none
  | n + 1, x0, μ =>
  bn (f_X12_see x0 (μ x0 7) μ) fun r2 μ1 => (
  bn (f_X12_isDigit r2 μ1) fun r5 μ4 => (
  if nrm r5 = 0 then (
    if nrm ((μ4 x0 7) - (μ4 x0 6)) ≤ nrm 3 then (
      f_X12_next_j230 x0 23 μ4)
    else (
      f_X12_next_j230 x0 25 μ4))
  else (
    if nrm 3 ≤ nrm ((μ4 x0 7) - (μ4 x0 6)) then (
      f_X12_next_j196 (f_X12_next_w146 n) x0 μ4)
    else (
      bn (f_X12_see x0 (μ4 x0 7) μ4) fun r11 μ10 => (
      nm (ms μ10 x0 10 (((10 * (μ4 x0 10)) + r11) - 48)) fun μ13 => (
      f_X12_next_j196 (f_X12_next_w146 n) x0 μ13))))))
def f_X12_next_w89 : Nat → Int → Mem → Option (Int × Mem)
  | 0, _, _ => none
  | n + 1, x0, μ =>
  bn (f_X12_see x0 (μ x0 7) μ) fun r2 μ1 => (
  bn (f_X12_isSmall r2 μ1) fun r5 μ4 => (
  if nrm r5 = 0 then (
    bn (f_X12_keyAt x0 μ4) fun r9 μ8 => (
    nm (ms μ8 x0 9 r9) fun μ11 => (
    some (0, μ11))))
  else (
    nm (ms μ4 x0 7 ((μ4 x0 7) + 1)) fun μ13 => (
    f_X12_next_w89 n x0 μ13))))
def f_X12_next_w8 : Nat → Int → Mem → Option (Int × Mem)
  | 0, _, _ => none
  | n + 1, x0, μ =>
  bn (f_X12_see x0 (μ x0 6) μ) fun r2 μ1 => (
  if nrm r2 = nrm 10 then (
    f_X12_next_j34 (f_X12_next_w8 n) x0 μ1)
  else (
    bn (f_X12_see x0 (μ1 x0 6) μ1) fun r6 μ5 => (
    if nrm r6 = nrm 32 then (
      f_X12_next_j34 (f_X12_next_w8 n) x0 μ5)
    else (
      nm (ms μ5 x0 7 (μ5 x0 6)) fun μ9 => (
      if nrm (μ9 x0 6) < nrm (μ9 x0 8) then (
        bn (f_X12_see x0 (μ9 x0 6) μ9) fun r13 μ12 => (
        bn (f_X12_isSmall r13 μ12) fun r16 μ15 => (
        if nrm r16 = 0 then (
          bn (f_X12_see x0 (μ15 x0 6) μ15) fun r20 μ19 => (
          bn (f_X12_isDigit r20 μ19) fun r23 μ22 => (
          if nrm r23 = 0 then (
            nm (ms μ22 x0 7 ((μ22 x0 7) + 1)) fun μ26 => (
            nm (ms μ26 x0 9 25) fun μ28 => (
            f_X12_next_w254 FU x0 0 μ28)))
          else (
            nm (ms μ22 x0 10 0) fun μ30 => (
            f_X12_next_w146 FU x0 μ30)))))
        else (
          f_X12_next_w89 FU x0 μ15))))
      else (
        nm (ms μ9 x0 9 24) fun μ32 => (
        some (0, μ32))))))))
def f_X12_next (x0 : Int) (μ : Mem) : Option (Int × Mem) :=
  nm (ms μ x0 6 (μ x0 7)) fun μ1 => (
  f_X12_next_w8 FU x0 μ1)
def f_X12_fails_j23 (x0 s0 s1 : Int) (μ : Mem) : Option (Int × Mem) :=
  gd (isK s0 12) (
  nm (ms μ s0 11 s1) fun μ2 => (
  nm (ms μ2 x0 12 (μ2 x0 6)) fun μ4 => (
  some (0, μ4))))
def f_X12_fails (x0 x1 : Int) (μ : Mem) : Option (Int × Mem) :=
  if nrm (μ x0 11) = 0 then (
    if nrm (μ x0 9) = nrm 25 then (
      f_X12_fails_j23 x0 x0 1 μ)
    else (
      f_X12_fails_j23 x0 x0 x1 μ))
  else (
    some (0, μ))
def f_X12_is (x0 x1 : Int) (μ : Mem) : Option (Int × Mem) :=
  if nrm (μ x0 11) = 0 then (
    if nrm (μ x0 9) = nrm x1 then (
      some (1, μ))
    else (
      some (0, μ)))
  else (
    some (0, μ))
def f_X12_eats (x0 x1 : Int) (μ : Mem) : Option (Int × Mem) :=
  bn (f_X12_is x0 x1 μ) fun r2 μ1 => (
  if nrm r2 = 0 then (
    some (0, μ1))
  else (
    bn (f_X12_next x0 μ1) fun r6 μ5 => (
    some (1, μ5))))
def f_X12_takes_j37 (x0 : Int) (μ : Mem) : Option (Int × Mem) :=
  nm (μ x0 10) fun v1 => (
  if nrm (μ x0 11) = 0 then (
    bn (f_X12_next x0 μ) fun r5 μ4 => (
    some (v1, μ4)))
  else (
    some (v1, μ)))
def f_X12_takes (x0 x1 x2 : Int) (μ : Mem) : Option (Int × Mem) :=
  bn (f_X12_is x0 23 μ) fun r2 μ1 => (
  if nrm r2 = 0 then (
    bn (f_X12_fails x0 2 μ1) fun r13 μ12 => (
    f_X12_takes_j37 x0 μ12))
  else (
    bn (f_X12_within (nrm (μ1 x0 10)) (nrm x1) (nrm x2) μ1) fun r6 μ5 => (
    if nrm r6 = 0 then (
      bn (f_X12_fails x0 3 μ5) fun r10 μ9 => (
      f_X12_takes_j37 x0 μ9))
    else (
      f_X12_takes_j37 x0 μ5))))
def f_X12_isIn (x0 x2 : Int) (μ : Mem) : Option (Int × Mem) :=
  if nrm (kcmp (kand (kshr x0 x2) 1) 1) = 0 then (
    some (1, μ))
  else (
    some (0, μ))
def f_X12_wordOf (x0 x1 : Int) (μ : Mem) : Option (Int × Mem) :=
  if nrm x1 = 2 then (
    some (0, μ))
  else (
  if nrm x1 = 3 then (
    some (1, μ))
  else (
  if nrm x1 = 4 then (
    some (2, μ))
  else (
  if nrm x1 = 8 then (
    some (3, μ))
  else (
  if nrm x1 = 11 then (
    if nrm (μ x0 15) = nrm 1 then (
      some (5, μ))
    else (
      some ((-1), μ)))
  else (
  if nrm x1 = 12 then (
    some (4, μ))
  else (
    some ((-1), μ)))))))
def f_X12_codes (x0 x1 : Int) (μ : Mem) : Option (Int × Mem) :=
  if nrm (μ x0 11) = 0 then (
    gd (0 ≤ nrm (200 + (μ (x0 + 4) 199)) ∧ nrm (200 + (μ (x0 + 4) 199)) < 1100) (
    nm (ms μ (x0 + 4) (nrm (200 + (μ (x0 + 4) 199))) x1) fun μ2 => (
    nm (ms μ2 (x0 + 4) 199 ((μ2 (x0 + 4) 199) + 1)) fun μ5 => (
    some (0, μ5)))))
  else (
    some (0, μ))
def f_X12_goesIn_j22 (x0 : Int) (μ : Mem) : Option (Int × Mem) :=
  if nrm (μ x0 11) = 0 then (
    some (1, μ))
  else (
    some (0, μ))
def f_X12_goesIn_j11 (x0 : Int) (μ : Mem) : Option (Int × Mem) :=
  if nrm (μ x0 11) = 0 then (
    bn (f_X12_next x0 μ) fun r3 μ2 => (
    f_X12_goesIn_j22 x0 μ2))
  else (
    f_X12_goesIn_j22 x0 μ)
def f_X12_goesIn (x0 x1 : Int) (μ : Mem) : Option (Int × Mem) :=
  if nrm x1 = nrm 6 then (
    bn (f_X12_fails x0 4 μ) fun r3 μ2 => (
    f_X12_goesIn_j11 x0 μ2))
  else (
    f_X12_goesIn_j11 x0 μ)
def f_X12_readAtom_j66 (rec : Nat → Int → Int → Mem → Option (Int × Mem)) (x0 x1 : Int) (μ : Mem) : Option (Int × Mem) :=
  bn (f_X12_is x0 35 μ) fun r2 μ1 => (
  if nrm r2 = 0 then (
    bn (f_X12_is x0 15 μ1) fun r6 μ5 => (
    if nrm r6 = 0 then (
      bn (f_X12_fails x0 2 μ5) fun r10 μ9 => (
      some (0, μ9)))
    else (
      bn (rec 2 x0 x1 μ5) fun r13 μ12 => (
      some (0, μ12)))))
  else (
    bn (f_X12_goesIn x0 x1 μ1) fun r16 μ15 => (
    if nrm r16 = 0 then (
      some (0, μ15))
    else (
      bn (rec 3 x0 (x1 + 1) μ15) fun r20 μ19 => (
      bn (f_X12_eats x0 36 μ19) fun r23 μ22 => (
      if nrm r23 = 0 then (
        bn (f_X12_fails x0 2 μ22) fun r27 μ26 => (
        some (0, μ26)))
      else (
        some (0, μ22))))))))
def b_X12_readAtom (rec : Nat → Int → Int → Mem → Option (Int × Mem)) (x0 x1 : Int) (μ : Mem) : Option (Int × Mem) :=
  bn (f_X12_is x0 23 μ) fun r2 μ1 => (
  if nrm r2 = 0 then (
    if nrm (μ1 x0 11) = 0 then (
      bn (f_X12_wordOf x0 (μ1 x0 9) μ1) fun r7 μ6 => (
      if nrm r7 = nrm (-1) then (
        f_X12_readAtom_j66 rec x0 x1 μ6)
      else (
        bn (f_X12_wordOf x0 (μ6 x0 9) μ6) fun r11 μ10 => (
        bn (f_X12_codes x0 (1000 + r11) μ10) fun r14 μ13 => (
        bn (f_X12_next x0 μ13) fun r17 μ16 => (
        some (0, μ16)))))))
    else (
      f_X12_readAtom_j66 rec x0 x1 μ1))
  else (
    bn (f_X12_codes x0 (μ1 x0 10) μ1) fun r20 μ19 => (
    bn (f_X12_next x0 μ19) fun r23 μ22 => (
    some (0, μ22)))))
def f_X12_readBoth_w5 (rec : Nat → Int → Int → Mem → Option (Int × Mem)) : Nat → Int → Int → Mem → Option (Int × Mem)
  | 0, _, _, _ => none
  | n + 1, x0, x1, μ =>
  bn (f_X12_eats x0 19 μ) fun r2 μ1 => (
  if nrm r2 = 0 then (
    some (0, μ1))
  else (
    bn (rec 6 x0 x1 μ1) fun r6 μ5 => (
    bn (f_X12_codes x0 3007 μ5) fun r9 μ8 => (
    f_X12_readBoth_w5 rec n x0 x1 μ8))))
def b_X12_readBoth (rec : Nat → Int → Int → Mem → Option (Int × Mem)) (x0 x1 : Int) (μ : Mem) : Option (Int × Mem) :=
  bn (rec 6 x0 x1 μ) fun r2 μ1 => (
  f_X12_readBoth_w5 rec FU x0 x1 μ1)
def f_X12_readIf_j72 (rec : Nat → Int → Int → Mem → Option (Int × Mem)) (x0 : Int) (μ : Mem) : Option (Int × Mem) :=
  bn (f_X12_codes x0 3009 μ) fun r2 μ1 => (
  some (0, μ1))
def f_X12_readIf_j51 (rec : Nat → Int → Int → Mem → Option (Int × Mem)) (x0 x1 : Int) (μ : Mem) : Option (Int × Mem) :=
  bn (rec 3 x0 (x1 + 1) μ) fun r2 μ1 => (
  bn (f_X12_eats x0 18 μ1) fun r5 μ4 => (
  if nrm r5 = 0 then (
    bn (f_X12_fails x0 2 μ4) fun r9 μ8 => (
    f_X12_readIf_j72 rec x0 μ8))
  else (
    f_X12_readIf_j72 rec x0 μ4)))
def f_X12_readIf_j30 (rec : Nat → Int → Int → Mem → Option (Int × Mem)) (x0 x1 : Int) (μ : Mem) : Option (Int × Mem) :=
  bn (rec 3 x0 (x1 + 1) μ) fun r2 μ1 => (
  bn (f_X12_eats x0 17 μ1) fun r5 μ4 => (
  if nrm r5 = 0 then (
    bn (f_X12_fails x0 2 μ4) fun r9 μ8 => (
    f_X12_readIf_j51 rec x0 x1 μ8))
  else (
    f_X12_readIf_j51 rec x0 x1 μ4)))
def b_X12_readIf (rec : Nat → Int → Int → Mem → Option (Int × Mem)) (x0 x1 : Int) (μ : Mem) : Option (Int × Mem) :=
  bn (f_X12_goesIn x0 x1 μ) fun r2 μ1 => (
  if nrm r2 = 0 then (
    some (0, μ1))
  else (
    bn (rec 5 x0 (x1 + 1) μ1) fun r6 μ5 => (
    bn (f_X12_eats x0 16 μ5) fun r9 μ8 => (
    if nrm r9 = 0 then (
      bn (f_X12_fails x0 2 μ8) fun r13 μ12 => (
      f_X12_readIf_j30 rec x0 x1 μ12))
    else (
      f_X12_readIf_j30 rec x0 x1 μ8)))))
def f_X12_readSum_j41 (rec : Nat → Int → Int → Mem → Option (Int × Mem)) (k5 : Int → Int → Mem → Option (Int × Mem)) (x0 x1 s0 : Int) (μ : Mem) : Option (Int × Mem) :=
  bn (f_X12_next x0 μ) fun r2 μ1 => (
  bn (rec 4 x0 x1 μ1) fun r5 μ4 => (
  bn (f_X12_codes x0 s0 μ4) fun r8 μ7 => (
  k5 x0 x1 μ7)))
def f_X12_readSum_j23 (rec : Nat → Int → Int → Mem → Option (Int × Mem)) (k5 : Int → Int → Mem → Option (Int × Mem)) (x0 x1 : Int) (μ : Mem) : Option (Int × Mem) :=
  if nrm (μ x0 9) = nrm 32 then (
    f_X12_readSum_j41 rec k5 x0 x1 3000 μ)
  else (
    f_X12_readSum_j41 rec k5 x0 x1 3001 μ)
def f_X12_readSum_w5 (rec : Nat → Int → Int → Mem → Option (Int × Mem)) : Nat → Int → Int → Mem → Option (Int × Mem)
  | 0, _, _, _ => none
  | n + 1, x0, x1, μ =>
  bn (f_X12_is x0 32 μ) fun r2 μ1 => (
  if nrm r2 = 0 then (
    bn (f_X12_is x0 33 μ1) fun r6 μ5 => (
    if nrm r6 = 0 then (
      some (0, μ5))
    else (
      f_X12_readSum_j23 rec (f_X12_readSum_w5 rec n) x0 x1 μ5)))
  else (
    f_X12_readSum_j23 rec (f_X12_readSum_w5 rec n) x0 x1 μ1))
def b_X12_readSum (rec : Nat → Int → Int → Mem → Option (Int × Mem)) (x0 x1 : Int) (μ : Mem) : Option (Int × Mem) :=
  bn (rec 4 x0 x1 μ) fun r2 μ1 => (
  f_X12_readSum_w5 rec FU x0 x1 μ1)
def f_X12_readTerm_w5 (rec : Nat → Int → Int → Mem → Option (Int × Mem)) : Nat → Int → Int → Mem → Option (Int × Mem)
  | 0, _, _, _ => none
  | n + 1, x0, x1, μ =>
  bn (f_X12_eats x0 34 μ) fun r2 μ1 => (
  if nrm r2 = 0 then (
    some (0, μ1))
  else (
    bn (rec 0 x0 x1 μ1) fun r6 μ5 => (
    bn (f_X12_codes x0 3002 μ5) fun r9 μ8 => (
    f_X12_readTerm_w5 rec n x0 x1 μ8))))
def b_X12_readTerm (rec : Nat → Int → Int → Mem → Option (Int × Mem)) (x0 x1 : Int) (μ : Mem) : Option (Int × Mem) :=
  bn (rec 0 x0 x1 μ) fun r2 μ1 => (
  f_X12_readTerm_w5 rec FU x0 x1 μ1)
def f_X12_readTruth_w5 (rec : Nat → Int → Int → Mem → Option (Int × Mem)) : Nat → Int → Int → Mem → Option (Int × Mem)
  | 0, _, _, _ => none
  | n + 1, x0, x1, μ =>
  bn (f_X12_eats x0 20 μ) fun r2 μ1 => (
  if nrm r2 = 0 then (
    some (0, μ1))
  else (
    bn (rec 1 x0 x1 μ1) fun r6 μ5 => (
    bn (f_X12_codes x0 3008 μ5) fun r9 μ8 => (
    f_X12_readTruth_w5 rec n x0 x1 μ8))))
def b_X12_readTruth (rec : Nat → Int → Int → Mem → Option (Int × Mem)) (x0 x1 : Int) (μ : Mem) : Option (Int × Mem) :=
  bn (rec 1 x0 x1 μ) fun r2 μ1 => (
  f_X12_readTruth_w5 rec FU x0 x1 μ1)
def f_X12_readUnit_j151 (rec : Nat → Int → Int → Mem → Option (Int × Mem)) (x0 x1 x2 : Int) (μ : Mem) : Option (Int × Mem) :=
  bn (rec 3 x0 x1 μ) fun r2 μ1 => (
  bn (f_X12_codes x0 x2 μ1) fun r5 μ4 => (
  some (0, μ4)))
def f_X12_readUnit_j139 (rec : Nat → Int → Int → Mem → Option (Int × Mem)) (x0 x1 x2 : Int) (μ : Mem) : Option (Int × Mem) :=
  bn (f_X12_next x0 μ) fun r2 μ1 => (
  f_X12_readUnit_j151 rec x0 x1 x2 μ1)
def f_X12_readUnit_j111 (rec : Nat → Int → Int → Mem → Option (Int × Mem)) (x0 x1 s0 : Int) (μ : Mem) : Option (Int × Mem) :=
  bn (f_X12_is x0 39 μ) fun r2 μ1 => (
  if nrm r2 = 0 then (
    bn (f_X12_is x0 40 μ1) fun r6 μ5 => (
    if nrm r6 = 0 then (
      bn (f_X12_is x0 41 μ5) fun r10 μ9 => (
      if nrm r10 = 0 then (
        bn (f_X12_fails x0 2 μ9) fun r14 μ13 => (
        f_X12_readUnit_j151 rec x0 x1 s0 μ13))
      else (
        f_X12_readUnit_j139 rec x0 x1 s0 μ9)))
    else (
      f_X12_readUnit_j139 rec x0 x1 s0 μ5)))
  else (
    f_X12_readUnit_j139 rec x0 x1 s0 μ1))
def b_X12_readUnit (rec : Nat → Int → Int → Mem → Option (Int × Mem)) (x0 x1 : Int) (μ : Mem) : Option (Int × Mem) :=
  bn (f_X12_is x0 21 μ) fun r2 μ1 => (
  if nrm r2 = 0 then (
    bn (f_X12_is x0 37 μ1) fun r6 μ5 => (
    if nrm r6 = 0 then (
      bn (rec 3 x0 x1 μ5) fun r10 μ9 => (
      bn (f_X12_is x0 39 μ9) fun r13 μ12 => (
      if nrm r13 = 0 then (
        bn (f_X12_is x0 40 μ12) fun r17 μ16 => (
        if nrm r17 = 0 then (
          f_X12_readUnit_j111 rec x0 x1 3005 μ16)
        else (
          f_X12_readUnit_j111 rec x0 x1 3004 μ16)))
      else (
        f_X12_readUnit_j111 rec x0 x1 3003 μ12))))
    else (
      bn (f_X12_goesIn x0 x1 μ5) fun r21 μ20 => (
      if nrm r21 = 0 then (
        some (0, μ20))
      else (
        bn (rec 5 x0 (x1 + 1) μ20) fun r25 μ24 => (
        bn (f_X12_eats x0 38 μ24) fun r28 μ27 => (
        if nrm r28 = 0 then (
          bn (f_X12_fails x0 2 μ27) fun r32 μ31 => (
          some (0, μ31)))
        else (
          some (0, μ27)))))))))
  else (
    bn (f_X12_goesIn x0 x1 μ1) fun r35 μ34 => (
    if nrm r35 = 0 then (
      some (0, μ34))
    else (
      bn (rec 6 x0 (x1 + 1) μ34) fun r39 μ38 => (
      bn (f_X12_codes x0 3006 μ38) fun r42 μ41 => (
      some (0, μ41)))))))
def g_X12_readAtom : Nat → Nat → Int → Int → Mem → Option (Int × Mem)
  | 0, _, _, _, _ => none
  | n + 1, sel, a0, a1, μ => if sel = 0 then b_X12_readAtom (g_X12_readAtom n) a0 a1 μ else if sel = 1 then b_X12_readBoth (g_X12_readAtom n) a0 a1 μ else if sel = 2 then b_X12_readIf (g_X12_readAtom n) a0 a1 μ else if sel = 3 then b_X12_readSum (g_X12_readAtom n) a0 a1 μ else if sel = 4 then b_X12_readTerm (g_X12_readAtom n) a0 a1 μ else if sel = 5 then b_X12_readTruth (g_X12_readAtom n) a0 a1 μ else if sel = 6 then b_X12_readUnit (g_X12_readAtom n) a0 a1 μ else none
def f_X12_readAtom (x0 x1 : Int) (μ : Mem) : Option (Int × Mem) := g_X12_readAtom 64 0 x0 x1 μ
def f_X12_readBoth (x0 x1 : Int) (μ : Mem) : Option (Int × Mem) := g_X12_readAtom 64 1 x0 x1 μ
def f_X12_readIf (x0 x1 : Int) (μ : Mem) : Option (Int × Mem) := g_X12_readAtom 64 2 x0 x1 μ
def f_X12_readSum (x0 x1 : Int) (μ : Mem) : Option (Int × Mem) := g_X12_readAtom 64 3 x0 x1 μ
def f_X12_readTerm (x0 x1 : Int) (μ : Mem) : Option (Int × Mem) := g_X12_readAtom 64 4 x0 x1 μ
def f_X12_readTruth (x0 x1 : Int) (μ : Mem) : Option (Int × Mem) := g_X12_readAtom 64 5 x0 x1 μ
def f_X12_readUnit (x0 x1 : Int) (μ : Mem) : Option (Int × Mem) := g_X12_readAtom 64 6 x0 x1 μ
def f_X12_readFlag_j83 (x0 : Int) (μ : Mem) : Option (Int × Mem) :=
  if nrm (μ x0 11) = 0 then (
    some (1, μ))
  else (
    some (0, μ))
def f_X12_readFlag (x0 x1 : Int) (μ : Mem) : Option (Int × Mem) :=
  bn (f_X12_eats x0 3 μ) fun r2 μ1 => (
  if nrm r2 = 0 then (
    bn (f_X12_eats x0 4 μ1) fun r6 μ5 => (
    if nrm r6 = 0 then (
      bn (f_X12_eats x0 5 μ5) fun r10 μ9 => (
      if nrm r10 = 0 then (
        some (0, μ9))
      else (
        bn (f_X12_takes x0 0 10 μ9) fun r14 μ13 => (
        gd (0 ≤ nrm (38 + x1) ∧ nrm (38 + x1) < 1100) (
        nm (ms μ13 (x0 + 4) (nrm (38 + x1)) r14) fun μ16 => (
        f_X12_readFlag_j83 x0 μ16))))))
    else (
      bn (f_X12_takes x0 0 9 μ5) fun r20 μ19 => (
      gd (0 ≤ nrm (29 + x1) ∧ nrm (29 + x1) < 1100) (
      nm (ms μ19 (x0 + 4) (nrm (29 + x1)) r20) fun μ22 => (
      f_X12_readFlag_j83 x0 μ22))))))
  else (
    bn (f_X12_takes x0 0 6 μ1) fun r26 μ25 => (
    gd (0 ≤ nrm (56 + x1) ∧ nrm (56 + x1) < 1100) (
    nm (ms μ25 (x0 + 4) (nrm (56 + x1)) r26) fun μ28 => (
    f_X12_readFlag_j83 x0 μ28)))))
def f_X12_readLane_j122 (x0 : Int) (μ : Mem) : Option (Int × Mem) :=
  if nrm (μ x0 11) = 0 then (
    nm (ms μ (x0 + 4) 2 ((μ (x0 + 4) 2) + 1)) fun μ2 => (
    some (0, μ2)))
  else (
    some (0, μ))
def f_X12_readLane_w104 : Nat → Int → Int → Mem → Option (Int × Mem)
  | 0, _, _, _ => none
  | n + 1, x0, x1, μ =>
  if nrm (μ x0 11) = 0 then (
    bn (f_X12_readFlag x0 x1 μ) fun r3 μ2 => (
    if nrm r3 = 0 then (
      f_X12_readLane_j122 x0 μ2)
    else (
      f_X12_readLane_w104 n x0 x1 μ2)))
  else (
    f_X12_readLane_j122 x0 μ)
def f_X12_readLane_j82 (x0 x1 : Int) (μ : Mem) : Option (Int × Mem) :=
  bn (f_X12_takes x0 0 ((μ (x0 + 4) 1) - 1) μ) fun r2 μ1 => (
  gd (0 ≤ nrm (20 + x1) ∧ nrm (20 + x1) < 1100) (
  nm (ms μ1 (x0 + 4) (nrm (20 + x1)) r2) fun μ4 => (
  f_X12_readLane_w104 FU x0 x1 μ4)))
def f_X12_readLane_j18 (x0 x1 : Int) (μ : Mem) : Option (Int × Mem) :=
  if nrm (μ x0 11) = 0 then (
    bn (f_X12_next x0 μ) fun r3 μ2 => (
    bn (f_X12_takes x0 0 ((μ2 (x0 + 4) 1) - 1) μ2) fun r6 μ5 => (
    gd (0 ≤ nrm (11 + x1) ∧ nrm (11 + x1) < 1100) (
    nm (ms μ5 (x0 + 4) (nrm (11 + x1)) r6) fun μ8 => (
    bn (f_X12_is x0 23 μ8) fun r12 μ11 => (
    if nrm r12 = 0 then (
      f_X12_readLane_j82 x0 x1 μ11)
    else (
      gd (0 ≤ nrm (11 + x1) ∧ nrm (11 + x1) < 1100) (
      if nrm (μ11 x0 10) = nrm (μ11 (x0 + 4) (nrm (11 + x1))) then (
        bn (f_X12_fails x0 3 μ11) fun r18 μ17 => (
        f_X12_readLane_j82 x0 x1 μ17))
      else (
        f_X12_readLane_j82 x0 x1 μ11)))))))))
  else (
    some (0, μ))
def f_X12_readLane (x0 : Int) (μ : Mem) : Option (Int × Mem) :=
  nm (μ (x0 + 4) 2) fun v1 => (
  if nrm v1 = nrm 9 then (
    bn (f_X12_fails x0 4 μ) fun r5 μ4 => (
    f_X12_readLane_j18 x0 v1 μ4))
  else (
    f_X12_readLane_j18 x0 v1 μ))
def f_X12_named_j13 (x0 x2 x3 : Int) (μ : Mem) : Option (Int × Mem) :=
  bn (f_X12_takes x0 x2 x3 μ) fun r2 μ1 => (
  some (r2, μ1))
def f_X12_named (x0 x1 x2 x3 : Int) (μ : Mem) : Option (Int × Mem) :=
  bn (f_X12_eats x0 x1 μ) fun r2 μ1 => (
  if nrm r2 = 0 then (
    bn (f_X12_fails x0 2 μ1) fun r6 μ5 => (
    f_X12_named_j13 x0 x2 x3 μ5))
  else (
    f_X12_named_j13 x0 x2 x3 μ1))
def f_X12_readCart (x0 : Int) (μ : Mem) : Option (Int × Mem) :=
  bn (f_X12_next x0 μ) fun r2 μ1 => (
  bn (f_X12_named x0 7 0 ((μ1 (x0 + 4) 1) - 1) μ1) fun r5 μ4 => (
  nm (ms μ4 (x0 + 4) 55 r5) fun μ7 => (
  bn (f_X12_named x0 8 0 9 μ7) fun r10 μ9 => (
  nm (ms μ9 (x0 + 4) 4 r10) fun μ12 => (
  some (0, μ12))))))
def f_X12_readPerson_j80 (x0 : Int) (μ : Mem) : Option (Int × Mem) :=
  if nrm (μ x0 11) = 0 then (
    nm (ms μ (x0 + 4) 3 ((μ (x0 + 4) 3) + 1)) fun μ2 => (
    some (0, μ2)))
  else (
    some (0, μ))
def f_X12_readPerson_w48 : Nat → Int → Int → Mem → Option (Int × Mem)
  | 0, _, _, _ => none
  | n + 1, x0, x1, μ =>
  if nrm (μ x0 11) = 0 then (
    bn (f_X12_eats x0 11 μ) fun r3 μ2 => (
    if nrm r3 = 0 then (
      f_X12_readPerson_j80 x0 μ2)
    else (
      nm (ms μ2 (x0 + 4) 65 (jor (μ2 (x0 + 4) 65) (jshl 1 x1))) fun μ6 => (
      f_X12_readPerson_w48 n x0 x1 μ6))))
  else (
    f_X12_readPerson_j80 x0 μ)
def f_X12_readPerson_j18 (x0 x1 : Int) (μ : Mem) : Option (Int × Mem) :=
  if nrm (μ x0 11) = 0 then (
    bn (f_X12_next x0 μ) fun r3 μ2 => (
    bn (f_X12_named x0 10 0 8 μ2) fun r6 μ5 => (
    gd (0 ≤ nrm (47 + x1) ∧ nrm (47 + x1) < 1100) (
    nm (ms μ5 (x0 + 4) (nrm (47 + x1)) r6) fun μ8 => (
    f_X12_readPerson_w48 FU x0 x1 μ8)))))
  else (
    some (0, μ))
def f_X12_readPerson (x0 : Int) (μ : Mem) : Option (Int × Mem) :=
  nm (μ (x0 + 4) 3) fun v1 => (
  if nrm v1 = nrm 8 then (
    bn (f_X12_fails x0 4 μ) fun r5 μ4 => (
    f_X12_readPerson_j18 x0 v1 μ4))
  else (
    f_X12_readPerson_j18 x0 v1 μ))
def f_X12_readLaw_j49 (x0 x1 x2 : Int) (μ : Mem) : Option (Int × Mem) :=
  if nrm (μ x0 11) = 0 then (
    gd (0 ≤ nrm (5 + x1) ∧ nrm (5 + x1) < 1100) (
    nm (ms μ (x0 + 4) (nrm (5 + x1)) 1) fun μ2 => (
    gd (0 ≤ nrm (7 + x1) ∧ nrm (7 + x1) < 1100) (
    nm (ms μ2 (x0 + 4) (nrm (7 + x1)) x2) fun μ5 => (
    gd (0 ≤ nrm (9 + x1) ∧ nrm (9 + x1) < 1100) (
    nm (ms μ5 (x0 + 4) (nrm (9 + x1)) ((μ5 (x0 + 4) 199) - x2)) fun μ8 => (
    some (0, μ8))))))))
  else (
    some (0, μ))
def f_X12_readLaw_j18 (x0 x1 : Int) (μ : Mem) : Option (Int × Mem) :=
  nm (μ (x0 + 4) 199) fun v1 => (
  nm (ms μ x0 15 x1) fun μ3 => (
  if nrm x1 = 0 then (
    bn (f_X12_readSum x0 0 μ3) fun r10 μ9 => (
    f_X12_readLaw_j49 x0 x1 v1 μ9))
  else (
    bn (f_X12_readTruth x0 0 μ3) fun r7 μ6 => (
    f_X12_readLaw_j49 x0 x1 v1 μ6))))
def f_X12_readLaw (x0 x1 : Int) (μ : Mem) : Option (Int × Mem) :=
  bn (f_X12_next x0 μ) fun r2 μ1 => (
  bn (f_X12_eats x0 31 μ1) fun r5 μ4 => (
  if nrm r5 = 0 then (
    bn (f_X12_fails x0 2 μ4) fun r9 μ8 => (
    f_X12_readLaw_j18 x0 x1 μ8))
  else (
    f_X12_readLaw_j18 x0 x1 μ4)))
def f_X12_readLine_j99 (x0 : Int) (μ : Mem) : Option (Int × Mem) :=
  bn (f_X12_readLaw x0 ((μ x0 9) - 13) μ) fun r2 μ1 => (
  some (0, μ1))
def f_X12_readLine (x0 : Int) (μ : Mem) : Option (Int × Mem) :=
  if nrm (μ x0 11) = 0 then (
    bn (f_X12_is x0 2 μ) fun r3 μ2 => (
    if nrm r3 = 0 then (
      bn (f_X12_is x0 6 μ2) fun r7 μ6 => (
      if nrm r7 = 0 then (
        bn (f_X12_is x0 9 μ6) fun r11 μ10 => (
        if nrm r11 = 0 then (
          bn (f_X12_eats x0 12 μ10) fun r15 μ14 => (
          if nrm r15 = 0 then (
            bn (f_X12_is x0 13 μ14) fun r19 μ18 => (
            if nrm r19 = 0 then (
              bn (f_X12_is x0 14 μ18) fun r23 μ22 => (
              if nrm r23 = 0 then (
                bn (f_X12_fails x0 2 μ22) fun r27 μ26 => (
                some (0, μ26)))
              else (
                f_X12_readLine_j99 x0 μ22)))
            else (
              f_X12_readLine_j99 x0 μ18)))
          else (
            bn (f_X12_takes x0 0 9 μ14) fun r30 μ29 => (
            nm (ms μ29 (x0 + 4) 66 r30) fun μ32 => (
            some (0, μ32))))))
        else (
          bn (f_X12_readPerson x0 μ10) fun r35 μ34 => (
          some (0, μ34)))))
      else (
        bn (f_X12_readCart x0 μ6) fun r38 μ37 => (
        some (0, μ37)))))
    else (
      bn (f_X12_readLane x0 μ2) fun r41 μ40 => (
      some (0, μ40)))))
  else (
    some (0, μ))
def f_X12_closes_j14 (x0 : Int) (μ : Mem) : Option (Int × Mem) :=
  nm (ms μ (x0 + 4) 0 ((μ (x0 + 4) 0) + 1)) fun μ1 => (
  some (0, μ1))
def f_X12_closes (x0 : Int) (μ : Mem) : Option (Int × Mem) :=
  bn (f_X12_eats x0 30 μ) fun r2 μ1 => (
  if nrm r2 = 0 then (
    bn (f_X12_fails x0 2 μ1) fun r6 μ5 => (
    f_X12_closes_j14 x0 μ5))
  else (
    f_X12_closes_j14 x0 μ1))
def f_X12_land_w155 : Nat → Int → Int → Mem → Option (Int × Mem)
  | 0, _, _, _ => none
  | n + 1, x0, x2, μ =>
  if nrm 1100 ≤ nrm x2 then (
    some ((μ (x0 + 1) 0), μ))
  else (
    gd (0 ≤ nrm x2 ∧ nrm x2 < 1100) (
    gd (0 ≤ nrm x2 ∧ nrm x2 < 3300) (
    nm (ms μ (x0 + 1) (nrm x2) (μ (x0 + 4) (nrm x2))) fun μ3 => (
    f_X12_land_w155 n x0 (x2 + 1) μ3))))
def f_X12_land_j135 (x0 s0 s1 : Int) (μ : Mem) : Option (Int × Mem) :=
  gd (isK s0 12) (
  nm (ms μ s0 14 s1) fun μ2 => (
  if nrm (μ2 x0 11) = 0 then (
    f_X12_land_w155 FU x0 0 μ2)
  else (
    some (((-30) - (μ2 x0 11)), μ2))))
def f_X12_land_j111 (x0 : Int) (μ : Mem) : Option (Int × Mem) :=
  nm (ms μ x0 13 (μ x0 11)) fun μ1 => (
  if nrm (μ1 x0 11) = 0 then (
    f_X12_land_j135 x0 x0 (-1) μ1)
  else (
    f_X12_land_j135 x0 x0 (μ1 x0 12) μ1))
def f_X12_land_w84 : Nat → Int → Mem → Option (Int × Mem)
  | 0, _, _ => none
  | n + 1, x0, μ =>
  if nrm (μ x0 11) = 0 then (
    if nrm (μ x0 9) = nrm 24 then (
      f_X12_land_j111 x0 μ)
    else (
      bn (f_X12_readLine x0 μ) fun r4 μ3 => (
      bn (f_X12_closes x0 μ3) fun r7 μ6 => (
      f_X12_land_w84 n x0 μ6))))
  else (
    f_X12_land_j111 x0 μ)
def f_X12_land_j66 (x0 : Int) (μ : Mem) : Option (Int × Mem) :=
  bn (f_X12_named x0 1 1 7 μ) fun r2 μ1 => (
  nm (ms μ1 (x0 + 4) 1 r2) fun μ4 => (
  bn (f_X12_closes x0 μ4) fun r7 μ6 => (
  f_X12_land_w84 FU x0 μ6)))
def f_X12_land (x0 x1 : Int) (μ : Mem) : Option (Int × Mem) :=
  nm (ms μ x0 0 0) fun μ1 => (
  bn (f_X12_within (nrm x1) 0 (nrm (μ1 x0 5)) μ1) fun r4 μ3 => (
  if nrm r4 = 0 then (
    some ((-3), μ3))
  else (
    nm (ms μ3 x0 8 x1) fun μ7 => (
    nm (ms μ7 x0 5 0) fun μ9 => (
    nm (ms μ9 x0 7 0) fun μ11 => (
    nm (ms μ11 x0 11 0) fun μ13 => (
    bn (f_X12_plain (x0 + 4) μ13) fun r16 μ15 => (
    bn (f_X12_next x0 μ15) fun r19 μ18 => (
    bn (f_X12_eats x0 0 μ18) fun r22 μ21 => (
    if nrm r22 = 0 then (
      bn (f_X12_fails x0 2 μ21) fun r26 μ25 => (
      f_X12_land_j66 x0 μ25))
    else (
      f_X12_land_j66 x0 μ21)))))))))))
def f_X12_fault (x0 x1 : Int) (μ : Mem) : Option (Int × Mem) :=
  nm (ms μ x0 0 0) fun μ1 => (
  if nrm x1 = 0 then (
    some ((μ1 x0 13), μ1))
  else (
    if nrm x1 = nrm 1 then (
      some ((μ1 x0 14), μ1))
    else (
      some ((-1), μ1))))
def f_X12_isPlace (x0 x1 : Int) (μ : Mem) : Option (Int × Mem) :=
  bn (f_X12_within (nrm x1) 0 (nrm ((μ (x0 + 1) 1) - 1)) μ) fun r2 μ1 => (
  gd (isB r2) (
  some (r2, μ1)))
def f_X12_isLane (x0 x1 : Int) (μ : Mem) : Option (Int × Mem) :=
  bn (f_X12_within x1 0 (nrm ((μ (x0 + 1) 2) - 1)) μ) fun r2 μ1 => (
  gd (isB r2) (
  some (r2, μ1)))
def f_X12_isPerson (x0 x1 : Int) (μ : Mem) : Option (Int × Mem) :=
  bn (f_X12_within x1 0 (nrm ((μ (x0 + 1) 3) - 1)) μ) fun r2 μ1 => (
  gd (isB r2) (
  some (r2, μ1)))
def f_X12_bitsOf_w4 : Nat → Int → Int → Int → Mem → Option (Int × Mem)
  | 0, _, _, _, _ => none
  | n + 1, x0, x1, x2, μ =>
  if nrm 9 ≤ nrm x2 then (
    some (x1, μ))
  else (
    nm (x1 + (jand (jshr x0 x2) 1)) fun v2 => (
    f_X12_bitsOf_w4 n x0 v2 (x2 + 1) μ))
def f_X12_bitsOf (x0 : Int) (μ : Mem) : Option (Int × Mem) :=
  f_X12_bitsOf_w4 FU x0 0 0 μ
def f_X12_otherEnd (x0 x1 x2 : Int) (μ : Mem) : Option (Int × Mem) :=
  gd (0 ≤ nrm (11 + x1) ∧ nrm (11 + x1) < 3300) (
  if nrm (μ (x0 + 1) (nrm (11 + x1))) = nrm x2 then (
    gd (0 ≤ nrm (20 + x1) ∧ nrm (20 + x1) < 3300) (
    some ((μ (x0 + 1) (nrm (20 + x1))), μ)))
  else (
    gd (0 ≤ nrm (20 + x1) ∧ nrm (20 + x1) < 3300) (
    if nrm (μ (x0 + 1) (nrm (20 + x1))) = nrm x2 then (
      gd (0 ≤ nrm (11 + x1) ∧ nrm (11 + x1) < 3300) (
      some ((μ (x0 + 1) (nrm (11 + x1))), μ)))
    else (
      some ((-1), μ)))))
def f_X12_between_j116 (s0 : Int) (μ : Mem) : Option (Int × Mem) :=
  if nrm (kcmp s0 1000000) ≤ 0 then (
    if 0 ≤ nrm (kcmp s0 (-1000000)) then (
      some (s0, μ))
    else (
      some ((-1000000), μ)))
  else (
    some (1000000, μ))
def f_X12_between_j81 (x0 x1 x2 : Int) (μ : Mem) : Option (Int × Mem) :=
  if nrm x0 = nrm 3000 then (
    f_X12_between_j116 ((nrm x1) + (nrm x2)) μ)
  else (
    if nrm x0 = nrm 3001 then (
      f_X12_between_j116 ((nrm x1) - (nrm x2)) μ)
    else (
      f_X12_between_j116 ((nrm x1) * (nrm x2)) μ))
def f_X12_between (x0 x1 x2 : Int) (μ : Mem) : Option (Int × Mem) :=
  if nrm x0 = 3003 then (
    if nrm x1 = nrm x2 then (
      some (1, μ))
    else (
      some (0, μ)))
  else (
  if nrm x0 = 3004 then (
    if nrm x2 ≤ nrm x1 then (
      some (0, μ))
    else (
      some (1, μ)))
  else (
  if nrm x0 = 3005 then (
    if nrm x1 ≤ nrm x2 then (
      some (0, μ))
    else (
      some (1, μ)))
  else (
  if nrm x0 = 3007 then (
    some ((jand x1 x2), μ))
  else (
  if nrm x0 = 3008 then (
    some ((jor x1 x2), μ))
  else (
    f_X12_between_j81 x0 x1 x2 μ)))))
def f_X12_reckons_j272 (k71 : Int → Int → Int → Int → Mem → Option (Int × Mem)) (x0 x1 x5 x6 : Int) (μ : Mem) : Option (Int × Mem) :=
  k71 x0 x1 x5 (x6 + 1) μ
def f_X12_reckons_j235 (k71 : Int → Int → Int → Int → Mem → Option (Int × Mem)) (x0 x1 x5 x6 s0 s1 s2 : Int) (μ : Mem) : Option (Int × Mem) :=
  gd (isA s0 1 ∧ 0 ≤ nrm s1 ∧ nrm s1 < aln s0) (
  nm (ms μ s0 (nrm s1) s2) fun μ1 => (
  f_X12_reckons_j272 k71 x0 x1 x5 x6 μ1))
def f_X12_reckons_j146 (k71 : Int → Int → Int → Int → Mem → Option (Int × Mem)) (x0 x1 x5 x6 s0 s1 s2 : Int) (μ : Mem) : Option (Int × Mem) :=
  gd (isA s0 1 ∧ 0 ≤ nrm s1 ∧ nrm s1 < aln s0) (
  nm (ms μ s0 (nrm s1) s2) fun μ1 => (
  f_X12_reckons_j272 k71 x0 x1 (x5 + 1) x6 μ1))
def f_X12_reckons_w71 : Nat → Int → Int → Int → Int → Mem → Option (Int × Mem)
  | 0, _, _, _, _, _ => none
  | n + 1, x0, x1, x5, x6, μ =>
  gd (0 ≤ nrm (9 + x1) ∧ nrm (9 + x1) < 3300) (
  if nrm (μ (x0 + 1) (nrm (9 + x1))) ≤ nrm x6 then (
    some ((μ (x0 + 5) 0), μ))
  else (
    gd (0 ≤ nrm (7 + x1) ∧ nrm (7 + x1) < 3300) (
    gd (0 ≤ nrm ((200 + (μ (x0 + 1) (nrm (7 + x1)))) + x6) ∧ nrm ((200 + (μ (x0 + 1) (nrm (7 + x1)))) + x6) < 3300) (
    nm (μ (x0 + 1) (nrm ((200 + (μ (x0 + 1) (nrm (7 + x1)))) + x6))) fun v5 => (
    if nrm 3000 ≤ nrm v5 then (
      if nrm v5 = nrm 3006 then (
        gd (0 ≤ nrm (x5 - 1) ∧ nrm (x5 - 1) < 900) (
        gd (0 ≤ nrm (x5 - 1) ∧ nrm (x5 - 1) < 900) (
        nm (ms μ (x0 + 5) (nrm (x5 - 1)) (1 - (μ (x0 + 5) (nrm (x5 - 1))))) fun μ23 => (
        f_X12_reckons_j272 (f_X12_reckons_w71 n) x0 x1 x5 x6 μ23))))
      else (
        if nrm v5 = nrm 3009 then (
          gd (0 ≤ nrm ((x5 + (-2)) - 1) ∧ nrm ((x5 + (-2)) - 1) < 900) (
          if nrm (μ (x0 + 5) (nrm ((x5 + (-2)) - 1))) = nrm 1 then (
            gd (0 ≤ nrm (x5 + (-2)) ∧ nrm (x5 + (-2)) < 900) (
            f_X12_reckons_j235 (f_X12_reckons_w71 n) x0 x1 (x5 + (-2)) x6 (x0 + 5) ((x5 + (-2)) - 1) (μ (x0 + 5) (nrm (x5 + (-2)))) μ))
          else (
            gd (0 ≤ nrm ((x5 + (-2)) + 1) ∧ nrm ((x5 + (-2)) + 1) < 900) (
            f_X12_reckons_j235 (f_X12_reckons_w71 n) x0 x1 (x5 + (-2)) x6 (x0 + 5) ((x5 + (-2)) - 1) (μ (x0 + 5) (nrm ((x5 + (-2)) + 1))) μ))))
        else (
          gd (0 ≤ nrm ((x5 + (-1)) - 1) ∧ nrm ((x5 + (-1)) - 1) < 900) (
          gd (0 ≤ nrm (x5 + (-1)) ∧ nrm (x5 + (-1)) < 900) (
          bn (f_X12_between v5 (μ (x0 + 5) (nrm ((x5 + (-1)) - 1))) (μ (x0 + 5) (nrm (x5 + (-1)))) μ) fun r13 μ12 => (
          gd (0 ≤ nrm ((x5 + (-1)) - 1) ∧ nrm ((x5 + (-1)) - 1) < 900) (
          nm (ms μ12 (x0 + 5) (nrm ((x5 + (-1)) - 1)) r13) fun μ15 => (
          f_X12_reckons_j272 (f_X12_reckons_w71 n) x0 x1 (x5 + (-1)) x6 μ15))))))))
    else (
      if nrm 1000 ≤ nrm v5 then (
        gd (0 ≤ nrm (v5 - 1000) ∧ nrm (v5 - 1000) < 6) (
        f_X12_reckons_j146 (f_X12_reckons_w71 n) x0 x1 x5 x6 (x0 + 5) x5 (μ (x0 + 6) (nrm (v5 - 1000))) μ))
      else (
        f_X12_reckons_j146 (f_X12_reckons_w71 n) x0 x1 x5 x6 (x0 + 5) x5 v5 μ)))))))
def f_X12_reckons (x0 x1 x2 x3 x4 : Int) (μ : Mem) : Option (Int × Mem) :=
  nm (ms μ (x0 + 6) 0 x2) fun μ1 => (
  nm (ms μ1 (x0 + 6) 1 x3) fun μ3 => (
  gd (0 ≤ nrm (29 + x2) ∧ nrm (29 + x2) < 3300) (
  nm (ms μ3 (x0 + 6) 2 (μ3 (x0 + 1) (nrm (29 + x2)))) fun μ6 => (
  nm (ms μ6 (x0 + 6) 3 (μ6 (x0 + 1) 4)) fun μ8 => (
  nm (ms μ8 (x0 + 6) 4 x4) fun μ10 => (
  bn (f_X12_bitsOf (μ10 (x0 + 1) 65) μ10) fun r13 μ12 => (
  nm (ms μ12 (x0 + 6) 5 r13) fun μ15 => (
  f_X12_reckons_w71 FU x0 x1 0 0 μ15))))))))
def f_X12_mayGo (x0 x1 x2 : Int) (μ : Mem) : Option (Int × Mem) :=
  if nrm (μ (x0 + 1) 6) = 0 then (
    if nrm (μ (x0 + 1) 4) < nrm x2 then (
      some (0, μ))
    else (
      some (1, μ)))
  else (
    bn (f_X12_reckons x0 1 x1 x2 (μ (x0 + 1) 66) μ) fun r3 μ2 => (
    if nrm r3 = nrm 1 then (
      some (1, μ2))
    else (
      some (0, μ2))))
def f_X12_isOpen (x0 x1 : Int) (μ : Mem) : Option (Int × Mem) :=
  gd (0 ≤ nrm (56 + x1) ∧ nrm (56 + x1) < 3300) (
  bn (f_X12_mayGo x0 x1 (μ (x0 + 1) (nrm (56 + x1))) μ) fun r3 μ2 => (
  gd (isB r3) (
  some (r3, μ2))))
def f_X12_wornTo_j43 (s0 : Int) (μ : Mem) : Option (Int × Mem) :=
  if 0 ≤ nrm s0 then (
    if nrm s0 ≤ nrm 6 then (
      some (s0, μ))
    else (
      some (6, μ)))
  else (
    some (0, μ))
def f_X12_wornTo (x0 x1 x2 x3 : Int) (μ : Mem) : Option (Int × Mem) :=
  if nrm (μ (x0 + 1) 5) = nrm 1 then (
    bn (f_X12_reckons x0 0 x1 x2 x3 μ) fun r5 μ4 => (
    f_X12_wornTo_j43 r5 μ4))
  else (
    gd (0 ≤ nrm (29 + x1) ∧ nrm (29 + x1) < 3300) (
    if nrm ((μ (x0 + 1) (nrm (29 + x1))) + x3) ≤ nrm 5 then (
      f_X12_wornTo_j43 x2 μ)
    else (
      f_X12_wornTo_j43 (x2 + 1) μ)))
def f_X12_fillingsOf_w2 : Nat → Int → Int → Int → Mem → Option (Int × Mem)
  | 0, _, _, _, _ => none
  | n + 1, x0, x1, x2, μ =>
  gd (0 ≤ nrm (56 + x1) ∧ nrm (56 + x1) < 3300) (
  if nrm (μ (x0 + 1) (nrm (56 + x1))) < nrm x2 then (
    some ((-1), μ))
  else (
    gd (0 ≤ nrm (56 + x1) ∧ nrm (56 + x1) < 3300) (
    bn (f_X12_mayGo x0 x1 ((μ (x0 + 1) (nrm (56 + x1))) - x2) μ) fun r5 μ4 => (
    if nrm r5 = 0 then (
      f_X12_fillingsOf_w2 n x0 x1 (x2 + 1) μ4)
    else (
      some (x2, μ4))))))
def f_X12_fillingsOf (x0 x1 : Int) (μ : Mem) : Option (Int × Mem) :=
  f_X12_fillingsOf_w2 FU x0 x1 0 μ
def f_X12_whyGo (x0 x1 : Int) (μ : Mem) : Option (Int × Mem) :=
  bn (f_X12_isLane x0 x1 μ) fun r2 μ1 => (
  if nrm r2 = 0 then (
    some (1, μ1))
  else (
    bn (f_X12_otherEnd x0 x1 (μ1 (x0 + 1) 55) μ1) fun r6 μ5 => (
    if nrm r6 = nrm (-1) then (
      some (2, μ5))
    else (
      bn (f_X12_isOpen x0 x1 μ5) fun r10 μ9 => (
      if nrm r10 = 0 then (
        some (3, μ9))
      else (
        some (0, μ9)))))))
def f_X12_lane (x0 x1 x2 : Int) (μ : Mem) : Option (Int × Mem) :=
  nm (ms μ x0 0 0) fun μ1 => (
  bn (f_X12_isLane x0 (nrm x1) μ1) fun r4 μ3 => (
  if nrm r4 = 0 then (
    some ((-2), μ3))
  else (
    if nrm x2 = 0 then (
      gd (0 ≤ nrm (11 + x1) ∧ nrm (11 + x1) < 3300) (
      some ((μ3 (x0 + 1) (nrm (11 + x1))), μ3)))
    else (
    if nrm x2 = 1 then (
      gd (0 ≤ nrm (20 + x1) ∧ nrm (20 + x1) < 3300) (
      some ((μ3 (x0 + 1) (nrm (20 + x1))), μ3)))
    else (
    if nrm x2 = 2 then (
      gd (0 ≤ nrm (56 + x1) ∧ nrm (56 + x1) < 3300) (
      some ((μ3 (x0 + 1) (nrm (56 + x1))), μ3)))
    else (
    if nrm x2 = 3 then (
      gd (0 ≤ nrm (29 + x1) ∧ nrm (29 + x1) < 3300) (
      some ((μ3 (x0 + 1) (nrm (29 + x1))), μ3)))
    else (
    if nrm x2 = 4 then (
      gd (0 ≤ nrm (38 + x1) ∧ nrm (38 + x1) < 3300) (
      some ((μ3 (x0 + 1) (nrm (38 + x1))), μ3)))
    else (
    if nrm x2 = 5 then (
      bn (f_X12_isOpen x0 x1 μ3) fun r19 μ18 => (
      if nrm r19 = 0 then (
        some (0, μ18))
      else (
        some (1, μ18))))
    else (
    some ((-2), μ3))))))))))
def f_X12_why (x0 x1 : Int) (μ : Mem) : Option (Int × Mem) :=
  nm (ms μ x0 0 0) fun μ1 => (
  bn (f_X12_whyGo x0 (nrm x1) μ1) fun r4 μ3 => (
  some (r4, μ3)))
def f_X12_worn (x0 x1 : Int) (μ : Mem) : Option (Int × Mem) :=
  nm (ms μ x0 0 0) fun μ1 => (
  bn (f_X12_isLane x0 (nrm x1) μ1) fun r4 μ3 => (
  if nrm r4 = 0 then (
    some ((-2), μ3))
  else (
    gd (0 ≤ nrm (56 + x1) ∧ nrm (56 + x1) < 3300) (
    bn (f_X12_wornTo x0 x1 (μ3 (x0 + 1) (nrm (56 + x1))) (μ3 (x0 + 1) 66) μ3) fun r9 μ8 => (
    some (r9, μ8))))))
def f_X12_fillings (x0 x1 : Int) (μ : Mem) : Option (Int × Mem) :=
  nm (ms μ x0 0 0) fun μ1 => (
  bn (f_X12_isLane x0 (nrm x1) μ1) fun r4 μ3 => (
  if nrm r4 = 0 then (
    some ((-2), μ3))
  else (
    bn (f_X12_fillingsOf x0 x1 μ3) fun r8 μ7 => (
    some (r8, μ7)))))
def f_X12_stores_w2 : Nat → Int → Int → Mem → Option (Int × Mem)
  | 0, _, _, _ => none
  | n + 1, x0, x1, μ =>
  if nrm 13 ≤ nrm x1 then (
    some (0, μ))
  else (
    gd (0 ≤ nrm (55 + x1) ∧ nrm (55 + x1) < 3300) (
    gd (0 ≤ nrm x1 ∧ nrm x1 < 13) (
    nm (ms μ (x0 + 7) (nrm x1) (μ (x0 + 1) (nrm (55 + x1)))) fun μ3 => (
    f_X12_stores_w2 n x0 (x1 + 1) μ3))))
def f_X12_stores (x0 : Int) (μ : Mem) : Option (Int × Mem) :=
  f_X12_stores_w2 FU x0 0 μ
def f_X12_isAgain_w2 : Nat → Int → Int → Mem → Option (Int × Mem)
  | 0, _, _, _ => none
  | n + 1, x0, x1, μ =>
  if nrm 13 ≤ nrm x1 then (
    some (0, μ))
  else (
    gd (0 ≤ nrm x1 ∧ nrm x1 < 13) (
    gd (0 ≤ nrm (55 + x1) ∧ nrm (55 + x1) < 3300) (
    nm (ms μ (x0 + 1) (nrm (55 + x1)) (μ (x0 + 7) (nrm x1))) fun μ3 => (
    f_X12_isAgain_w2 n x0 (x1 + 1) μ3))))
def f_X12_isAgain (x0 : Int) (μ : Mem) : Option (Int × Mem) :=
  f_X12_isAgain_w2 FU x0 0 μ
def f_X12_notes_w57 : Nat → Int → Int → Mem → Option (Int × Mem)
  | 0, _, _, _ => none
  | n + 1, x0, x1, μ =>
  if nrm 13 ≤ nrm x1 then (
    nm (ms μ (x0 + 1) 68 ((μ (x0 + 1) 68) + 1)) fun μ2 => (
    some (0, μ2)))
  else (
    gd (0 ≤ nrm x1 ∧ nrm x1 < 13) (
    gd (0 ≤ nrm ((69 + (13 * (μ (x0 + 1) 68))) + x1) ∧ nrm ((69 + (13 * (μ (x0 + 1) 68))) + x1) < 3300) (
    nm (ms μ (x0 + 1) (nrm ((69 + (13 * (μ (x0 + 1) 68))) + x1)) (μ (x0 + 7) (nrm x1))) fun μ5 => (
    f_X12_notes_w57 n x0 (x1 + 1) μ5))))
def f_X12_notes_j55 (x0 : Int) (μ : Mem) : Option (Int × Mem) :=
  f_X12_notes_w57 FU x0 0 μ
def f_X12_notes_w14 : Nat → Int → Int → Mem → Option (Int × Mem)
  | 0, _, _, _ => none
  | n + 1, x0, x1, μ =>
  if nrm 117 ≤ nrm x1 then (
    nm (ms μ (x0 + 1) 68 ((μ (x0 + 1) 68) - 1)) fun μ2 => (
    f_X12_notes_j55 x0 μ2))
  else (
    gd (0 ≤ nrm (82 + x1) ∧ nrm (82 + x1) < 3300) (
    gd (0 ≤ nrm (69 + x1) ∧ nrm (69 + x1) < 3300) (
    nm (ms μ (x0 + 1) (nrm (69 + x1)) (μ (x0 + 1) (nrm (82 + x1)))) fun μ5 => (
    f_X12_notes_w14 n x0 (x1 + 1) μ5))))
def f_X12_notes (x0 : Int) (μ : Mem) : Option (Int × Mem) :=
  if nrm (μ (x0 + 1) 68) = nrm 10 then (
    f_X12_notes_w14 FU x0 0 μ)
  else (
    f_X12_notes_j55 x0 μ)
def f_X12_goes (x0 x1 : Int) (μ : Mem) : Option (Int × Mem) :=
  bn (f_X12_otherEnd x0 x1 (μ (x0 + 1) 55) μ) fun r2 μ1 => (
  nm (ms μ1 (x0 + 1) 55 r2) fun μ4 => (
  gd (0 ≤ nrm (56 + x1) ∧ nrm (56 + x1) < 3300) (
  bn (f_X12_wornTo x0 x1 (μ4 (x0 + 1) (nrm (56 + x1))) (μ4 (x0 + 1) 66) μ4) fun r8 μ7 => (
  gd (0 ≤ nrm (56 + x1) ∧ nrm (56 + x1) < 3300) (
  nm (ms μ7 (x0 + 1) (nrm (56 + x1)) r8) fun μ10 => (
  nm (ms μ10 (x0 + 1) 67 ((μ10 (x0 + 1) 67) + 1)) fun μ13 => (
  some (0, μ13))))))))
def f_X12_go (x0 x1 : Int) (μ : Mem) : Option (Int × Mem) :=
  nm (ms μ x0 0 0) fun μ1 => (
  bn (f_X12_whyGo x0 (nrm x1) μ1) fun r4 μ3 => (
  if nrm r4 = 0 then (
    bn (f_X12_stores x0 μ3) fun r8 μ7 => (
    bn (f_X12_goes x0 x1 μ7) fun r11 μ10 => (
    bn (f_X12_notes x0 μ10) fun r14 μ13 => (
    some ((μ13 (x0 + 1) 55), μ13)))))
  else (
    some (((-10) - r4), μ3))))
def f_X12_whyRut_j32 (s0 s1 : Int) (μ : Mem) : Option (Int × Mem) :=
  if nrm s0 = nrm s1 then (
    some (2, μ))
  else (
    some (0, μ))
def f_X12_whyRut (x0 x1 x3 : Int) (μ : Mem) : Option (Int × Mem) :=
  bn (f_X12_isLane x0 x1 μ) fun r2 μ1 => (
  if nrm r2 = 0 then (
    some (1, μ1))
  else (
    gd (0 ≤ nrm (56 + x1) ∧ nrm (56 + x1) < 3300) (
    if 0 ≤ nrm x3 then (
      f_X12_whyRut_j32 (μ1 (x0 + 1) (nrm (56 + x1))) 6 μ1)
    else (
      f_X12_whyRut_j32 (μ1 (x0 + 1) (nrm (56 + x1))) 0 μ1))))
def f_X12_shovels (x0 x1 x2 : Int) (μ : Mem) : Option (Int × Mem) :=
  bn (f_X12_whyRut x0 (nrm x1) x2 μ) fun r2 μ1 => (
  if nrm r2 = 0 then (
    bn (f_X12_stores x0 μ1) fun r6 μ5 => (
    gd (0 ≤ nrm (56 + x1) ∧ nrm (56 + x1) < 3300) (
    gd (0 ≤ nrm (56 + x1) ∧ nrm (56 + x1) < 3300) (
    nm (ms μ5 (x0 + 1) (nrm (56 + x1)) ((μ5 (x0 + 1) (nrm (56 + x1))) + x2)) fun μ9 => (
    bn (f_X12_notes x0 μ9) fun r13 μ12 => (
    gd (0 ≤ nrm (56 + x1) ∧ nrm (56 + x1) < 3300) (
    some ((μ12 (x0 + 1) (nrm (56 + x1))), μ12))))))))
  else (
    some (((-10) - r2), μ1)))
def f_X12_fill (x0 x1 : Int) (μ : Mem) : Option (Int × Mem) :=
  nm (ms μ x0 0 0) fun μ1 => (
  bn (f_X12_shovels x0 x1 (-1) μ1) fun r4 μ3 => (
  some (r4, μ3)))
def f_X12_dig (x0 x1 : Int) (μ : Mem) : Option (Int × Mem) :=
  nm (ms μ x0 0 0) fun μ1 => (
  bn (f_X12_shovels x0 x1 1 μ1) fun r4 μ3 => (
  some (r4, μ3)))
def f_X12_turn (x0 x1 : Int) (μ : Mem) : Option (Int × Mem) :=
  nm (ms μ x0 0 0) fun μ1 => (
  bn (f_X12_isPerson x0 (nrm x1) μ1) fun r4 μ3 => (
  if nrm r4 = 0 then (
    some ((-11), μ3))
  else (
    bn (f_X12_stores x0 μ3) fun r8 μ7 => (
    nm (ms μ7 (x0 + 1) 65 (jxor (μ7 (x0 + 1) 65) (jshl 1 x1))) fun μ10 => (
    bn (f_X12_notes x0 μ10) fun r13 μ12 => (
    some ((jand (jshr (μ12 (x0 + 1) 65) x1) 1), μ12)))))))
def f_X12_seasonTo_j38 (k4 : Int → Int → Int → Int → Mem → Option (Int × Mem)) (x0 x1 x3 s0 s1 : Int) (μ : Mem) : Option (Int × Mem) :=
  nm (jor s0 s1) fun v1 => (
  k4 x0 x1 v1 (x3 + 1) μ)
def f_X12_seasonTo_w4 : Nat → Int → Int → Int → Int → Mem → Option (Int × Mem)
  | 0, _, _, _, _, _ => none
  | n + 1, x0, x1, x2, x3, μ =>
  if nrm (μ (x0 + 1) 3) ≤ nrm x3 then (
    some (x2, μ))
  else (
    bn (f_X12_bitsOf x1 μ) fun r3 μ2 => (
    gd (0 ≤ nrm (47 + x3) ∧ nrm (47 + x3) < 3300) (
    if nrm r3 < nrm (μ2 (x0 + 1) (nrm (47 + x3))) then (
      f_X12_seasonTo_j38 (f_X12_seasonTo_w4 n) x0 x1 x3 x2 0 μ2)
    else (
      f_X12_seasonTo_j38 (f_X12_seasonTo_w4 n) x0 x1 x3 x2 (jshl 1 x3) μ2))))
def f_X12_seasonTo (x0 x1 : Int) (μ : Mem) : Option (Int × Mem) :=
  f_X12_seasonTo_w4 FU x0 x1 x1 0 μ
def f_X12_seasons_w26 : Nat → Int → Int → Int → Mem → Option (Int × Mem)
  | 0, _, _, _, _ => none
  | n + 1, x0, x1, x2, μ =>
  if nrm x1 ≤ nrm x2 then (
    bn (f_X12_notes x0 μ) fun r3 μ2 => (
    bn (f_X12_bitsOf (μ2 (x0 + 1) 65) μ2) fun r6 μ5 => (
    some (r6, μ5))))
  else (
    bn (f_X12_seasonTo x0 (μ (x0 + 1) 65) μ) fun r9 μ8 => (
    nm (ms μ8 (x0 + 1) 65 r9) fun μ11 => (
    f_X12_seasons_w26 n x0 x1 (x2 + 1) μ11)))
def f_X12_seasons (x0 x1 : Int) (μ : Mem) : Option (Int × Mem) :=
  nm (ms μ x0 0 0) fun μ1 => (
  bn (f_X12_within (nrm x1) 1 99 μ1) fun r4 μ3 => (
  if nrm r4 = 0 then (
    some ((-3), μ3))
  else (
    bn (f_X12_stores x0 μ3) fun r8 μ7 => (
    f_X12_seasons_w26 FU x0 x1 0 μ7))))
def f_X12_rain (x0 x1 : Int) (μ : Mem) : Option (Int × Mem) :=
  nm (ms μ x0 0 0) fun μ1 => (
  bn (f_X12_within (nrm x1) 0 9 μ1) fun r4 μ3 => (
  if nrm r4 = 0 then (
    some ((-11), μ3))
  else (
    bn (f_X12_stores x0 μ3) fun r8 μ7 => (
    nm (ms μ7 (x0 + 1) 66 x1) fun μ10 => (
    bn (f_X12_notes x0 μ10) fun r13 μ12 => (
    some ((μ12 (x0 + 7) 11), μ12)))))))
def f_X12_undo_w44 : Nat → Int → Int → Mem → Option (Int × Mem)
  | 0, _, _, _ => none
  | n + 1, x0, x2, μ =>
  if nrm 13 ≤ nrm x2 then (
    some ((μ (x0 + 1) 68), μ))
  else (
    gd (0 ≤ nrm ((69 + (13 * (μ (x0 + 1) 68))) + x2) ∧ nrm ((69 + (13 * (μ (x0 + 1) 68))) + x2) < 3300) (
    gd (0 ≤ nrm (55 + x2) ∧ nrm (55 + x2) < 3300) (
    nm (ms μ (x0 + 1) (nrm (55 + x2)) (μ (x0 + 1) (nrm ((69 + (13 * (μ (x0 + 1) 68))) + x2)))) fun μ3 => (
    f_X12_undo_w44 n x0 (x2 + 1) μ3))))
def f_X12_undo (x0 x1 : Int) (μ : Mem) : Option (Int × Mem) :=
  nm (ms μ x0 0 0) fun μ1 => (
  bn (f_X12_within (nrm x1) 1 10 μ1) fun r4 μ3 => (
  if nrm r4 = 0 then (
    some ((-3), μ3))
  else (
    if nrm x1 ≤ nrm (μ3 (x0 + 1) 68) then (
      nm (ms μ3 (x0 + 1) 68 ((μ3 (x0 + 1) 68) - x1)) fun μ8 => (
      f_X12_undo_w44 FU x0 0 μ8))
    else (
      some ((-3), μ3)))))
def f_X12_whyNot_j49 (s0 s1 s2 : Int) (μ : Mem) : Option (Int × Mem) :=
  gd (isK s0 12) (
  bn (f_X12_whyRut s0 s1 s2 μ) fun r3 μ2 => (
  some (r3, μ2)))
def f_X12_whyNot (x0 x1 : Int) (μ : Mem) : Option (Int × Mem) :=
  bn (f_X12_within x1 0 9 μ) fun r2 μ1 => (
  if nrm r2 = 0 then (
    bn (f_X12_within x1 10 29 μ1) fun r6 μ5 => (
    if nrm r6 = 0 then (
      bn (f_X12_within x1 40 49 μ5) fun r10 μ9 => (
      if nrm r10 = 0 then (
        bn (f_X12_within x1 30 39 μ9) fun r14 μ13 => (
        if nrm r14 = 0 then (
          if nrm (kcmp x1 50) = 0 then (
            some (0, μ13))
          else (
            some (1, μ13)))
        else (
          some (0, μ13))))
      else (
        bn (f_X12_isPerson x0 (x1 - 40) μ9) fun r19 μ18 => (
        if nrm r19 = 0 then (
          some (1, μ18))
        else (
          some (0, μ18))))))
    else (
      if 0 ≤ nrm (kcmp x1 20) then (
        f_X12_whyNot_j49 x0 (krem x1 10) 1 μ5)
      else (
        f_X12_whyNot_j49 x0 (krem x1 10) (-1) μ5))))
  else (
    bn (f_X12_whyGo x0 x1 μ1) fun r24 μ23 => (
    some (r24, μ23))))
def f_X12_does_j44 (s0 s1 s2 s3 : Int) (μ : Mem) : Option (Int × Mem) :=
  gd (isA s0 1 ∧ 0 ≤ nrm s1 ∧ nrm s1 < aln s0) (
  nm (ms μ s0 (nrm s1) (s2 + s3)) fun μ1 => (
  some (0, μ1)))
def f_X12_does (x0 x1 : Int) (μ : Mem) : Option (Int × Mem) :=
  if nrm 10 ≤ nrm x1 then (
    if nrm 30 ≤ nrm x1 then (
      if nrm 40 ≤ nrm x1 then (
        if nrm 50 ≤ nrm x1 then (
          bn (f_X12_seasonTo x0 (μ (x0 + 1) 65) μ) fun r6 μ5 => (
          nm (ms μ5 (x0 + 1) 65 r6) fun μ8 => (
          some (0, μ8))))
        else (
          nm (ms μ (x0 + 1) 65 (jxor (μ (x0 + 1) 65) (jshl 1 (x1 - 40)))) fun μ10 => (
          some (0, μ10))))
      else (
        nm (ms μ (x0 + 1) 66 (x1 - 30)) fun μ12 => (
        some (0, μ12))))
    else (
      gd (0 ≤ nrm (56 + (jrem x1 10)) ∧ nrm (56 + (jrem x1 10)) < 3300) (
      if nrm 20 ≤ nrm x1 then (
        f_X12_does_j44 (x0 + 1) (56 + (jrem x1 10)) (μ (x0 + 1) (nrm (56 + (jrem x1 10)))) 1 μ)
      else (
        f_X12_does_j44 (x0 + 1) (56 + (jrem x1 10)) (μ (x0 + 1) (nrm (56 + (jrem x1 10)))) (-1) μ))))
  else (
    bn (f_X12_goes x0 x1 μ) fun r17 μ16 => (
    some (0, μ16)))
def f_X12_tells_w7 : Nat → Int → Int → Int → Mem → Option (Int × Mem)
  | 0, _, _, _, _ => none
  | n + 1, x0, x1, x2, μ =>
  gd (0 ≤ nrm x1 ∧ nrm x1 < 4) (
  if nrm (μ (x0 + 16) (nrm x1)) ≤ nrm x2 then (
    gd (0 ≤ nrm x1 ∧ nrm x1 < 4) (
    some ((μ (x0 + 16) (nrm x1)), μ)))
  else (
    gd (0 ≤ nrm ((40 * x1) + x2) ∧ nrm ((40 * x1) + x2) < 160) (
    bn (f_X12_whyNot x0 (μ (x0 + 17) (nrm ((40 * x1) + x2))) μ) fun r6 μ5 => (
    nm (ms μ5 x0 19 r6) fun μ8 => (
    if nrm (μ8 x0 19) = 0 then (
      gd (0 ≤ nrm ((40 * x1) + x2) ∧ nrm ((40 * x1) + x2) < 160) (
      bn (f_X12_does x0 (μ8 (x0 + 17) (nrm ((40 * x1) + x2))) μ8) fun r13 μ12 => (
      f_X12_tells_w7 n x0 x1 (x2 + 1) μ12)))
    else (
      some (x2, μ8)))))))
def f_X12_tells (x0 x1 : Int) (μ : Mem) : Option (Int × Mem) :=
  nm (ms μ x0 19 0) fun μ1 => (
  f_X12_tells_w7 FU x0 x1 0 μ1)
def f_X12_noTray (x0 x1 : Int) (μ : Mem) : Option (Int × Mem) :=
  bn (f_X12_within (nrm x1) 0 3 μ) fun r2 μ1 => (
  if nrm r2 = 0 then (
    some ((-2), μ1))
  else (
    gd (0 ≤ nrm x1 ∧ nrm x1 < 4) (
    if nrm (μ1 (x0 + 15) (nrm x1)) = nrm (-1) then (
      some ((-6), μ1))
    else (
      some (0, μ1)))))
def f_X12_depthSum_w4 : Nat → Int → Int → Int → Mem → Option (Int × Mem)
  | 0, _, _, _, _ => none
  | n + 1, x0, x1, x2, μ =>
  if nrm (μ (x0 + 1) 2) ≤ nrm x2 then (
    some (x1, μ))
  else (
    gd (0 ≤ nrm (56 + x2) ∧ nrm (56 + x2) < 3300) (
    nm (x1 + (μ (x0 + 1) (nrm (56 + x2)))) fun v3 => (
    f_X12_depthSum_w4 n x0 v3 (x2 + 1) μ)))
def f_X12_depthSum (x0 : Int) (μ : Mem) : Option (Int × Mem) :=
  f_X12_depthSum_w4 FU x0 0 0 μ
def f_X12_judge (x0 x1 x2 : Int) (μ : Mem) : Option (Int × Mem) :=
  nm (ms μ x0 0 0) fun μ1 => (
  bn (f_X12_within (nrm x2) 0 3 μ1) fun r4 μ3 => (
  if nrm r4 = 0 then (
    some ((-2), μ3))
  else (
    bn (f_X12_noTray x0 x1 μ3) fun r8 μ7 => (
    if nrm r8 = 0 then (
      bn (f_X12_stores x0 μ7) fun r12 μ11 => (
      bn (f_X12_tells x0 x1 μ11) fun r15 μ14 => (
      nm (μ14 (x0 + 1) 55) fun v17 => (
      bn (f_X12_depthSum x0 μ14) fun r20 μ19 => (
      bn (f_X12_isAgain x0 μ19) fun r23 μ22 => (
      if nrm x2 = 0 then (
        if nrm (μ22 x0 19) = 0 then (
          some ((-1), μ22))
        else (
          some (r15, μ22)))
      else (
        if nrm x2 = nrm 1 then (
          some ((μ22 x0 19), μ22))
        else (
          if nrm x2 = nrm 2 then (
            some (v17, μ22))
          else (
            some (r20, μ22))))))))))
    else (
      some (r8, μ7))))))
def f_X12_perform (x0 x1 : Int) (μ : Mem) : Option (Int × Mem) :=
  nm (ms μ x0 0 0) fun μ1 => (
  bn (f_X12_noTray x0 x1 μ1) fun r4 μ3 => (
  if nrm r4 = 0 then (
    bn (f_X12_stores x0 μ3) fun r8 μ7 => (
    bn (f_X12_tells x0 x1 μ7) fun r11 μ10 => (
    if nrm r11 ≤ 0 then (
      some (r11, μ10))
    else (
      bn (f_X12_notes x0 μ10) fun r15 μ14 => (
      some (r11, μ14))))))
  else (
    some (r4, μ3))))
def f_X12_draw (x0 x1 : Int) (μ : Mem) : Option (Int × Mem) :=
  nm (ms μ x0 20 ((1103515245 * (μ x0 20)) + 12345)) fun μ1 => (
  gd (nrm x1 ≠ 0) (
  some ((jrem (jushr (μ1 x0 20) 16) x1), μ1)))
def f_X12_drawn (x0 : Int) (μ : Mem) : Option (Int × Mem) :=
  bn (f_X12_draw x0 8 μ) fun r2 μ1 => (
  if nrm 3 ≤ nrm r2 then (
    if nrm 5 ≤ nrm r2 then (
      if nrm r2 = nrm 5 then (
        bn (f_X12_draw x0 10 μ1) fun r12 μ11 => (
        some ((30 + r12), μ11)))
      else (
        if nrm r2 = nrm 6 then (
          bn (f_X12_draw x0 8 μ1) fun r9 μ8 => (
          some ((40 + r9), μ8)))
        else (
          some (50, μ1))))
    else (
      bn (f_X12_draw x0 9 μ1) fun r15 μ14 => (
      some (((10 * (r2 - 2)) + r15), μ14))))
  else (
    bn (f_X12_draw x0 9 μ1) fun r18 μ17 => (
    some (r18, μ17))))
def f_X12_year_j68 (k34 : Int → Int → Int → Int → Mem → Option (Int × Mem)) (x0 x2 x3 x4 : Int) (μ : Mem) : Option (Int × Mem) :=
  k34 x0 x2 x3 (x4 + 1) μ
def f_X12_year_w34 : Nat → Int → Int → Int → Int → Mem → Option (Int × Mem)
  | 0, _, _, _, _, _ => none
  | n + 1, x0, x2, x3, x4, μ =>
  if nrm x2 ≤ nrm x4 then (
    if nrm x3 ≤ 0 then (
      some (x3, μ))
    else (
      bn (f_X12_notes x0 μ) fun r4 μ3 => (
      some (x3, μ3))))
  else (
    bn (f_X12_drawn x0 μ) fun r7 μ6 => (
    bn (f_X12_whyNot x0 (nrm r7) μ6) fun r10 μ9 => (
    if nrm r10 = 0 then (
      bn (f_X12_does x0 r7 μ9) fun r14 μ13 => (
      f_X12_year_j68 (f_X12_year_w34 n) x0 x2 (x3 + 1) x4 μ13))
    else (
      f_X12_year_j68 (f_X12_year_w34 n) x0 x2 x3 x4 μ9))))
def f_X12_year (x0 x1 x2 : Int) (μ : Mem) : Option (Int × Mem) :=
  nm (ms μ x0 0 0) fun μ1 => (
  bn (f_X12_within (nrm x2) 1 40 μ1) fun r4 μ3 => (
  if nrm r4 = 0 then (
    some ((-3), μ3))
  else (
    bn (f_X12_stores x0 μ3) fun r8 μ7 => (
    nm (ms μ7 x0 20 x1) fun μ10 => (
    f_X12_year_w34 FU x0 x2 0 0 μ10)))))
def f_X12_nearer (x0 x1 x2 : Int) (μ : Mem) : Option (Int × Mem) :=
  gd (0 ≤ nrm x1 ∧ nrm x1 < 7) (
  if nrm (μ (x0 + 8) (nrm x1)) = nrm 268435456 then (
    some (0, μ))
  else (
    gd (0 ≤ nrm x2 ∧ nrm x2 < 7) (
    gd (0 ≤ nrm x1 ∧ nrm x1 < 7) (
    if nrm ((μ (x0 + 8) (nrm x1)) + 1) < nrm (μ (x0 + 8) (nrm x2)) then (
      gd (0 ≤ nrm x1 ∧ nrm x1 < 7) (
      gd (0 ≤ nrm x2 ∧ nrm x2 < 7) (
      nm (ms μ (x0 + 8) (nrm x2) ((μ (x0 + 8) (nrm x1)) + 1)) fun μ7 => (
      some (1, μ7)))))
    else (
      some (0, μ))))))
def f_X12_laysFar_j126 (k40 : Int → Int → Int → Mem → Option (Int × Mem)) (k48 : Int → Int → Int → Int → Mem → Option (Int × Mem)) (x0 x1 x2 x3 : Int) (μ : Mem) : Option (Int × Mem) :=
  k48 x0 x1 x2 (x3 + 1) μ
def f_X12_laysFar_w48 (k40 : Int → Int → Int → Mem → Option (Int × Mem)) : Nat → Int → Int → Int → Int → Mem → Option (Int × Mem)
  | 0, _, _, _, _, _ => none
  | n + 1, x0, x1, x2, x3, μ =>
  if nrm (μ (x0 + 1) 2) ≤ nrm x3 then (
    k40 x0 x1 x2 μ)
  else (
    bn (f_X12_isIn (nrm x1) x3 μ) fun r3 μ2 => (
    if nrm r3 = 0 then (
      f_X12_laysFar_j126 k40 (f_X12_laysFar_w48 k40 n) x0 x1 x2 x3 μ2)
    else (
      bn (f_X12_isOpen x0 x3 μ2) fun r7 μ6 => (
      if nrm r7 = 0 then (
        f_X12_laysFar_j126 k40 (f_X12_laysFar_w48 k40 n) x0 x1 x2 x3 μ6)
      else (
        gd (0 ≤ nrm (11 + x3) ∧ nrm (11 + x3) < 3300) (
        gd (0 ≤ nrm (20 + x3) ∧ nrm (20 + x3) < 3300) (
        bn (f_X12_nearer x0 (μ6 (x0 + 1) (nrm (11 + x3))) (μ6 (x0 + 1) (nrm (20 + x3))) μ6) fun r13 μ12 => (
        gd (0 ≤ nrm (20 + x3) ∧ nrm (20 + x3) < 3300) (
        gd (0 ≤ nrm (11 + x3) ∧ nrm (11 + x3) < 3300) (
        bn (f_X12_nearer x0 (μ12 (x0 + 1) (nrm (20 + x3))) (μ12 (x0 + 1) (nrm (11 + x3))) μ12) fun r18 μ17 => (
        nm (jor x2 (jor r13 r18)) fun v20 => (
        f_X12_laysFar_j126 k40 (f_X12_laysFar_w48 k40 n) x0 x1 v20 x3 μ17))))))))))))
def f_X12_laysFar_w40 : Nat → Int → Int → Int → Mem → Option (Int × Mem)
  | 0, _, _, _, _ => none
  | n + 1, x0, x1, x2, μ =>
  if nrm x2 = 0 then (
    some (0, μ))
  else (
    f_X12_laysFar_w48 (f_X12_laysFar_w40 n) FU x0 x1 0 0 μ)
def f_X12_laysFar_j31 (k2 : Int → Int → Int → Mem → Option (Int × Mem)) (x0 x1 x2 s0 s1 s2 : Int) (μ : Mem) : Option (Int × Mem) :=
  gd (isA s0 1 ∧ 0 ≤ nrm s1 ∧ nrm s1 < aln s0) (
  nm (ms μ s0 (nrm s1) s2) fun μ1 => (
  k2 x0 x1 (x2 + 1) μ1))
def f_X12_laysFar_w2 : Nat → Int → Int → Int → Mem → Option (Int × Mem)
  | 0, _, _, _, _ => none
  | n + 1, x0, x1, x2, μ =>
  if nrm 7 ≤ nrm x2 then (
    f_X12_laysFar_w40 FU x0 x1 1 μ)
  else (
    if nrm x2 = nrm (μ (x0 + 1) 55) then (
      f_X12_laysFar_j31 (f_X12_laysFar_w2 n) x0 x1 x2 (x0 + 8) x2 0 μ)
    else (
      f_X12_laysFar_j31 (f_X12_laysFar_w2 n) x0 x1 x2 (x0 + 8) x2 268435456 μ))
def f_X12_laysFar (x0 x1 : Int) (μ : Mem) : Option (Int × Mem) :=
  f_X12_laysFar_w2 FU x0 x1 0 μ
def f_X12_everyLane (x0 : Int) (μ : Mem) : Option (Int × Mem) :=
  some (((jshl 1 (μ (x0 + 1) 2)) - 1), μ)
def f_X12_reach_j47 (k17 : Int → Int → Int → Mem → Option (Int × Mem)) (x0 x2 s0 s1 : Int) (μ : Mem) : Option (Int × Mem) :=
  nm (jor s0 s1) fun v1 => (
  k17 x0 v1 (x2 + 1) μ)
def f_X12_reach_w17 : Nat → Int → Int → Int → Mem → Option (Int × Mem)
  | 0, _, _, _, _ => none
  | n + 1, x0, x1, x2, μ =>
  if nrm (μ (x0 + 1) 1) ≤ nrm x2 then (
    some (x1, μ))
  else (
    gd (0 ≤ nrm x2 ∧ nrm x2 < 7) (
    if nrm 268435456 ≤ nrm (μ (x0 + 8) (nrm x2)) then (
      f_X12_reach_j47 (f_X12_reach_w17 n) x0 x2 x1 0 μ)
    else (
      f_X12_reach_j47 (f_X12_reach_w17 n) x0 x2 x1 (jshl 1 x2) μ)))
def f_X12_reach (x0 : Int) (μ : Mem) : Option (Int × Mem) :=
  nm (ms μ x0 0 0) fun μ1 => (
  bn (f_X12_everyLane x0 μ1) fun r4 μ3 => (
  bn (f_X12_laysFar x0 r4 μ3) fun r7 μ6 => (
  f_X12_reach_w17 FU x0 0 0 μ6)))
def f_X12_toldFar (x0 : Int) (μ : Mem) : Option (Int × Mem) :=
  if nrm x0 < nrm 268435456 then (
    some (x0, μ))
  else (
    some ((-1), μ))
def f_X12_soonest (x0 x1 : Int) (μ : Mem) : Option (Int × Mem) :=
  nm (ms μ x0 0 0) fun μ1 => (
  bn (f_X12_isPlace x0 x1 μ1) fun r4 μ3 => (
  if nrm r4 = 0 then (
    some ((-2), μ3))
  else (
    bn (f_X12_everyLane x0 μ3) fun r8 μ7 => (
    bn (f_X12_laysFar x0 r8 μ7) fun r11 μ10 => (
    gd (0 ≤ nrm x1 ∧ nrm x1 < 7) (
    bn (f_X12_toldFar (μ10 (x0 + 8) (nrm x1)) μ10) fun r15 μ14 => (
    some (r15, μ14))))))))
def f_X12_rowsFrom_j125 (rec : Nat → Int → Int → Int → Int → Mem → Option (Int × Mem)) (k21 : Int → Int → Int → Int → Int → Int → Mem → Option (Int × Mem)) (x0 x1 x2 x3 x4 x5 : Int) (μ : Mem) : Option (Int × Mem) :=
  k21 x0 x1 x2 x3 x4 (x5 + 1) μ
def f_X12_rowsFrom_w21 (rec : Nat → Int → Int → Int → Int → Mem → Option (Int × Mem)) : Nat → Int → Int → Int → Int → Int → Int → Mem → Option (Int × Mem)
  | 0, _, _, _, _, _, _, _ => none
  | n + 1, x0, x1, x2, x3, x4, x5, μ =>
  if nrm (μ (x0 + 1) 2) ≤ nrm x5 then (
    some (x4, μ))
  else (
    bn (f_X12_otherEnd x0 x5 x1 μ) fun r3 μ2 => (
    gd (0 ≤ nrm (56 + x5) ∧ nrm (56 + x5) < 3300) (
    nm (μ2 (x0 + 1) (nrm (56 + x5))) fun v6 => (
    if nrm r3 = nrm (-1) then (
      f_X12_rowsFrom_j125 rec (f_X12_rowsFrom_w21 rec n) x0 x1 x2 x3 x4 x5 μ2)
    else (
      bn (f_X12_mayGo x0 x5 v6 μ2) fun r10 μ9 => (
      if nrm r10 = 0 then (
        f_X12_rowsFrom_j125 rec (f_X12_rowsFrom_w21 rec n) x0 x1 x2 x3 x4 x5 μ9)
      else (
        bn (f_X12_wornTo x0 x5 v6 (μ9 (x0 + 1) 66) μ9) fun r14 μ13 => (
        gd (0 ≤ nrm (56 + x5) ∧ nrm (56 + x5) < 3300) (
        nm (ms μ13 (x0 + 1) (nrm (56 + x5)) r14) fun μ16 => (
        bn (rec 0 x0 r3 x2 (x3 - 1) μ16) fun r20 μ19 => (
        nm (x4 + r20) fun v22 => (
        gd (0 ≤ nrm (56 + x5) ∧ nrm (56 + x5) < 3300) (
        nm (ms μ19 (x0 + 1) (nrm (56 + x5)) v6) fun μ24 => (
        f_X12_rowsFrom_j125 rec (f_X12_rowsFrom_w21 rec n) x0 x1 x2 x3 v22 x5 μ24))))))))))))))
def b_X12_rowsFrom (rec : Nat → Int → Int → Int → Int → Mem → Option (Int × Mem)) (x0 x1 x2 x3 : Int) (μ : Mem) : Option (Int × Mem) :=
  if nrm x3 = 0 then (
    if nrm x1 = nrm x2 then (
      some (1, μ))
    else (
      some (0, μ)))
  else (
    f_X12_rowsFrom_w21 rec FU x0 x1 x2 x3 0 0 μ)
def g_X12_rowsFrom : Nat → Nat → Int → Int → Int → Int → Mem → Option (Int × Mem)
  | 0, _, _, _, _, _, _ => none
  | n + 1, sel, a0, a1, a2, a3, μ => if sel = 0 then b_X12_rowsFrom (g_X12_rowsFrom n) a0 a1 a2 a3 μ else none
def f_X12_rowsFrom (x0 x1 x2 x3 : Int) (μ : Mem) : Option (Int × Mem) := g_X12_rowsFrom 64 0 x0 x1 x2 x3 μ
def f_X12_rows (x0 x1 x2 : Int) (μ : Mem) : Option (Int × Mem) :=
  nm (ms μ x0 0 0) fun μ1 => (
  bn (f_X12_isPlace x0 x1 μ1) fun r4 μ3 => (
  if nrm r4 = 0 then (
    some ((-2), μ3))
  else (
    bn (f_X12_within (nrm x2) 0 6 μ3) fun r8 μ7 => (
    if nrm r8 = 0 then (
      some ((-3), μ7))
    else (
      bn (f_X12_rowsFrom x0 (μ7 (x0 + 1) 55) x1 x2 μ7) fun r12 μ11 => (
      some (r12, μ11)))))))
def f_X12_finds_j138 (rec : Nat → Int → Int → Int → Int → Int → Mem → Option (Int × Mem)) (k20 : Int → Int → Int → Int → Int → Int → Mem → Option (Int × Mem)) (x0 x1 x2 x3 x4 x5 : Int) (μ : Mem) : Option (Int × Mem) :=
  k20 x0 x1 x2 x3 x4 (x5 + 1) μ
def f_X12_finds_w20 (rec : Nat → Int → Int → Int → Int → Int → Mem → Option (Int × Mem)) : Nat → Int → Int → Int → Int → Int → Int → Mem → Option (Int × Mem)
  | 0, _, _, _, _, _, _, _ => none
  | n + 1, x0, x1, x2, x3, x4, x5, μ =>
  if nrm (μ (x0 + 1) 2) ≤ nrm x5 then (
    some (0, μ))
  else (
    bn (f_X12_otherEnd x0 x5 x1 μ) fun r3 μ2 => (
    gd (0 ≤ nrm (56 + x5) ∧ nrm (56 + x5) < 3300) (
    nm (μ2 (x0 + 1) (nrm (56 + x5))) fun v6 => (
    if nrm r3 = nrm (-1) then (
      f_X12_finds_j138 rec (f_X12_finds_w20 rec n) x0 x1 x2 x3 x4 x5 μ2)
    else (
      bn (f_X12_mayGo x0 x5 v6 μ2) fun r10 μ9 => (
      if nrm r10 = 0 then (
        f_X12_finds_j138 rec (f_X12_finds_w20 rec n) x0 x1 x2 x3 x4 x5 μ9)
      else (
        gd (0 ≤ nrm x3 ∧ nrm x3 < 6) (
        nm (ms μ9 (x0 + 9) (nrm x3) x5) fun μ13 => (
        bn (f_X12_wornTo x0 x5 v6 (μ13 (x0 + 1) 66) μ13) fun r17 μ16 => (
        gd (0 ≤ nrm (56 + x5) ∧ nrm (56 + x5) < 3300) (
        nm (ms μ16 (x0 + 1) (nrm (56 + x5)) r17) fun μ19 => (
        bn (rec 0 x0 r3 x2 (x3 + 1) x4 μ19) fun r23 μ22 => (
        gd (0 ≤ nrm (56 + x5) ∧ nrm (56 + x5) < 3300) (
        nm (ms μ22 (x0 + 1) (nrm (56 + x5)) v6) fun μ25 => (
        if nrm r23 = 0 then (
          f_X12_finds_j138 rec (f_X12_finds_w20 rec n) x0 x1 x2 x3 x4 x5 μ25)
        else (
          some (1, μ25)))))))))))))))))
def b_X12_finds (rec : Nat → Int → Int → Int → Int → Int → Mem → Option (Int × Mem)) (x0 x1 x2 x3 x4 : Int) (μ : Mem) : Option (Int × Mem) :=
  if nrm x3 = nrm x4 then (
    if nrm x1 = nrm x2 then (
      some (1, μ))
    else (
      some (0, μ)))
  else (
    f_X12_finds_w20 rec FU x0 x1 x2 x3 x4 0 μ)
def g_X12_finds : Nat → Nat → Int → Int → Int → Int → Int → Mem → Option (Int × Mem)
  | 0, _, _, _, _, _, _, _ => none
  | n + 1, sel, a0, a1, a2, a3, a4, μ => if sel = 0 then b_X12_finds (g_X12_finds n) a0 a1 a2 a3 a4 μ else none
def f_X12_finds (x0 x1 x2 x3 x4 : Int) (μ : Mem) : Option (Int × Mem) := g_X12_finds 64 0 x0 x1 x2 x3 x4 μ
def f_X12_way_w38 : Nat → Int → Int → Int → Int → Mem → Option (Int × Mem)
  | 0, _, _, _, _, _ => none
  | n + 1, x0, x1, x2, x3, μ =>
  if nrm 6 < nrm x3 then (
    some ((-1), μ))
  else (
    bn (f_X12_finds x0 (μ (x0 + 1) 55) x1 0 x3 μ) fun r3 μ2 => (
    if nrm r3 = 0 then (
      f_X12_way_w38 n x0 x1 x2 (x3 + 1) μ2)
    else (
      if nrm x3 ≤ nrm x2 then (
        some ((-1), μ2))
      else (
        gd (0 ≤ nrm x2 ∧ nrm x2 < 6) (
        some ((μ2 (x0 + 9) (nrm x2)), μ2))))))
def f_X12_way (x0 x1 x2 : Int) (μ : Mem) : Option (Int × Mem) :=
  nm (ms μ x0 0 0) fun μ1 => (
  bn (f_X12_isPlace x0 x1 μ1) fun r4 μ3 => (
  if nrm r4 = 0 then (
    some ((-2), μ3))
  else (
    if 0 ≤ nrm x2 then (
      if nrm x1 = nrm (μ3 (x0 + 1) 55) then (
        some ((-1), μ3))
      else (
        f_X12_way_w38 FU x0 x1 x2 1 μ3))
    else (
      some ((-3), μ3)))))
def f_X12_toAndFro_w29 : Nat → Int → Int → Int → Int → Mem → Option (Int × Mem)
  | 0, _, _, _, _, _ => none
  | n + 1, x0, x1, x2, x3, μ =>
  if nrm 100 ≤ nrm x3 then (
    some (x3, μ))
  else (
    bn (f_X12_mayGo x0 x1 x2 μ) fun r3 μ2 => (
    if nrm r3 = 0 then (
      some (x3, μ2))
    else (
      bn (f_X12_wornTo x0 x1 x2 (μ2 (x0 + 1) 66) μ2) fun r7 μ6 => (
      f_X12_toAndFro_w29 n x0 x1 r7 (x3 + 1) μ6))))
def f_X12_toAndFro (x0 x1 : Int) (μ : Mem) : Option (Int × Mem) :=
  nm (ms μ x0 0 0) fun μ1 => (
  bn (f_X12_isLane x0 (nrm x1) μ1) fun r4 μ3 => (
  if nrm r4 = 0 then (
    some ((-2), μ3))
  else (
    gd (0 ≤ nrm (56 + x1) ∧ nrm (56 + x1) < 3300) (
    nm (μ3 (x0 + 1) (nrm (56 + x1))) fun v8 => (
    f_X12_toAndFro_w29 FU x0 x1 v8 0 μ3)))))
def f_X12_costOf (x0 x1 : Int) (μ : Mem) : Option (Int × Mem) :=
  bn (f_X12_fillingsOf x0 x1 μ) fun r2 μ1 => (
  if nrm r2 = nrm (-1) then (
    some (268435456, μ1))
  else (
    some (((1000 * r2) + 1), μ1)))
def f_X12_costBy (x0 x1 x2 : Int) (μ : Mem) : Option (Int × Mem) :=
  bn (f_X12_otherEnd x0 x1 x2 μ) fun r2 μ1 => (
  if nrm r2 = nrm (-1) then (
    some (268435456, μ1))
  else (
    bn (f_X12_costOf x0 x1 μ1) fun r6 μ5 => (
    if nrm r6 = nrm 268435456 then (
      some (268435456, μ5))
    else (
      gd (0 ≤ nrm r2 ∧ nrm r2 < 7) (
      if nrm (μ5 (x0 + 10) (nrm r2)) = nrm 268435456 then (
        some (268435456, μ5))
      else (
        bn (f_X12_costOf x0 x1 μ5) fun r12 μ11 => (
        gd (0 ≤ nrm r2 ∧ nrm r2 < 7) (
        some ((r12 + (μ11 (x0 + 10) (nrm r2))), μ11)))))))))
def f_X12_laysCost_j100 (k34 : Int → Int → Mem → Option (Int × Mem)) (k42 : Int → Int → Int → Mem → Option (Int × Mem)) (k55 : Int → Int → Int → Int → Mem → Option (Int × Mem)) (x0 x2 x3 x4 : Int) (μ : Mem) : Option (Int × Mem) :=
  k55 x0 x2 x3 (x4 + 1) μ
def f_X12_laysCost_w55 (k34 : Int → Int → Mem → Option (Int × Mem)) (k42 : Int → Int → Int → Mem → Option (Int × Mem)) : Nat → Int → Int → Int → Int → Mem → Option (Int × Mem)
  | 0, _, _, _, _, _ => none
  | n + 1, x0, x2, x3, x4, μ =>
  if nrm (μ (x0 + 1) 2) ≤ nrm x4 then (
    k42 x0 x2 (x3 + 1) μ)
  else (
    bn (f_X12_costBy x0 x4 x3 μ) fun r3 μ2 => (
    gd (0 ≤ nrm x3 ∧ nrm x3 < 7) (
    if nrm r3 < nrm (μ2 (x0 + 10) (nrm x3)) then (
      bn (f_X12_costBy x0 x4 x3 μ2) fun r8 μ7 => (
      gd (0 ≤ nrm x3 ∧ nrm x3 < 7) (
      nm (ms μ7 (x0 + 10) (nrm x3) r8) fun μ10 => (
      f_X12_laysCost_j100 k34 k42 (f_X12_laysCost_w55 k34 k42 n) x0 1 x3 x4 μ10))))
    else (
      f_X12_laysCost_j100 k34 k42 (f_X12_laysCost_w55 k34 k42 n) x0 x2 x3 x4 μ2))))
def f_X12_laysCost_w42 (k34 : Int → Int → Mem → Option (Int × Mem)) : Nat → Int → Int → Int → Mem → Option (Int × Mem)
  | 0, _, _, _, _ => none
  | n + 1, x0, x2, x3, μ =>
  if nrm (μ (x0 + 1) 1) ≤ nrm x3 then (
    k34 x0 x2 μ)
  else (
    f_X12_laysCost_w55 k34 (f_X12_laysCost_w42 k34 n) FU x0 x2 x3 0 μ)
def f_X12_laysCost_w34 : Nat → Int → Int → Mem → Option (Int × Mem)
  | 0, _, _, _ => none
  | n + 1, x0, x2, μ =>
  if nrm x2 = 0 then (
    gd (0 ≤ nrm (μ (x0 + 1) 55) ∧ nrm (μ (x0 + 1) 55) < 7) (
    some ((μ (x0 + 10) (nrm (μ (x0 + 1) 55))), μ)))
  else (
    f_X12_laysCost_w42 (f_X12_laysCost_w34 n) FU x0 0 0 μ)
def f_X12_laysCost_j25 (k2 : Int → Int → Int → Mem → Option (Int × Mem)) (x0 x1 x2 s0 s1 s2 : Int) (μ : Mem) : Option (Int × Mem) :=
  gd (isA s0 1 ∧ 0 ≤ nrm s1 ∧ nrm s1 < aln s0) (
  nm (ms μ s0 (nrm s1) s2) fun μ1 => (
  k2 x0 x1 (x2 + 1) μ1))
def f_X12_laysCost_w2 : Nat → Int → Int → Int → Mem → Option (Int × Mem)
  | 0, _, _, _, _ => none
  | n + 1, x0, x1, x2, μ =>
  if nrm 7 ≤ nrm x2 then (
    f_X12_laysCost_w34 FU x0 1 μ)
  else (
    if nrm x2 = nrm x1 then (
      f_X12_laysCost_j25 (f_X12_laysCost_w2 n) x0 x1 x2 (x0 + 10) x2 0 μ)
    else (
      f_X12_laysCost_j25 (f_X12_laysCost_w2 n) x0 x1 x2 (x0 + 10) x2 268435456 μ))
def f_X12_laysCost (x0 x1 : Int) (μ : Mem) : Option (Int × Mem) :=
  f_X12_laysCost_w2 FU x0 x1 0 μ
def f_X12_laneAt_w34 (k10 : Int → Int → Int → Int → Mem → Option (Int × Mem)) : Nat → Int → Int → Int → Int → Int → Mem → Option (Int × Mem)
  | 0, _, _, _, _, _, _ => none
  | n + 1, x0, x1, x2, x3, x4, μ =>
  bn (f_X12_costBy x0 x4 x2 μ) fun r2 μ1 => (
  gd (0 ≤ nrm x2 ∧ nrm x2 < 7) (
  if nrm r2 = nrm (μ1 (x0 + 10) (nrm x2)) then (
    if nrm x3 = nrm x1 then (
      some (x4, μ1))
    else (
      bn (f_X12_otherEnd x0 x4 x2 μ1) fun r8 μ7 => (
      k10 x0 x1 r8 (x3 + 1) μ7)))
  else (
    f_X12_laneAt_w34 k10 n x0 x1 x2 x3 (x4 + 1) μ1)))
def f_X12_laneAt_w10 : Nat → Int → Int → Int → Int → Mem → Option (Int × Mem)
  | 0, _, _, _, _, _ => none
  | n + 1, x0, x1, x2, x3, μ =>
  gd (0 ≤ nrm x2 ∧ nrm x2 < 7) (
  if nrm (μ (x0 + 10) (nrm x2)) ≤ 0 then (
    some ((-1), μ))
  else (
    gd (0 ≤ nrm x2 ∧ nrm x2 < 7) (
    if nrm 268435456 ≤ nrm (μ (x0 + 10) (nrm x2)) then (
      some ((-1), μ))
    else (
      f_X12_laneAt_w34 (f_X12_laneAt_w10 n) FU x0 x1 x2 x3 0 μ))))
def f_X12_laneAt (x0 x1 : Int) (μ : Mem) : Option (Int × Mem) :=
  nm (μ (x0 + 1) 55) fun v1 => (
  f_X12_laneAt_w10 FU x0 x1 v1 0 μ)
def f_X12_cheapest (x0 x1 x2 : Int) (μ : Mem) : Option (Int × Mem) :=
  nm (ms μ x0 0 0) fun μ1 => (
  bn (f_X12_isPlace x0 x1 μ1) fun r4 μ3 => (
  if nrm r4 = 0 then (
    some ((-2), μ3))
  else (
    bn (f_X12_within (nrm x2) 0 1 μ3) fun r8 μ7 => (
    if nrm r8 = 0 then (
      some ((-2), μ7))
    else (
      bn (f_X12_laysCost x0 x1 μ7) fun r12 μ11 => (
      if nrm r12 = nrm 268435456 then (
        some ((-1), μ11))
      else (
        if nrm x2 = 0 then (
          some ((jdiv r12 1000), μ11))
        else (
          some ((jrem r12 1000), μ11)))))))))
def f_X12_cheapBy (x0 x1 x2 : Int) (μ : Mem) : Option (Int × Mem) :=
  nm (ms μ x0 0 0) fun μ1 => (
  bn (f_X12_isPlace x0 x1 μ1) fun r4 μ3 => (
  if nrm r4 = 0 then (
    some ((-2), μ3))
  else (
    if 0 ≤ nrm x2 then (
      bn (f_X12_laysCost x0 x1 μ3) fun r9 μ8 => (
      bn (f_X12_laneAt x0 x2 μ8) fun r12 μ11 => (
      some (r12, μ11))))
    else (
      some ((-3), μ3)))))
def f_X12_areJoined_j94 (k4 : Int → Int → Int → Int → Mem → Option (Int × Mem)) (x0 x1 x2 s0 : Int) (μ : Mem) : Option (Int × Mem) :=
  k4 x0 x1 x2 s0 μ
def f_X12_areJoined_j77 (k4 : Int → Int → Int → Int → Mem → Option (Int × Mem)) (k14 : Int → Int → Int → Int → Int → Mem → Option (Int × Mem)) (x0 x1 x2 x4 x5 : Int) (μ : Mem) : Option (Int × Mem) :=
  k14 x0 x1 x2 x4 (x5 + 1) μ
def f_X12_areJoined_w14 (k4 : Int → Int → Int → Int → Mem → Option (Int × Mem)) : Nat → Int → Int → Int → Int → Int → Mem → Option (Int × Mem)
  | 0, _, _, _, _, _, _ => none
  | n + 1, x0, x1, x2, x4, x5, μ =>
  if nrm (μ (x0 + 1) 2) ≤ nrm x5 then (
    if nrm x2 = nrm x4 then (
      f_X12_areJoined_j94 k4 x0 x1 x2 0 μ)
    else (
      f_X12_areJoined_j94 k4 x0 x1 x2 1 μ))
  else (
    bn (f_X12_isIn (nrm x1) x5 μ) fun r4 μ3 => (
    if nrm r4 = 0 then (
      f_X12_areJoined_j77 k4 (f_X12_areJoined_w14 k4 n) x0 x1 x2 x4 x5 μ3)
    else (
      gd (0 ≤ nrm (11 + x5) ∧ nrm (11 + x5) < 3300) (
      gd (0 ≤ nrm (20 + x5) ∧ nrm (20 + x5) < 3300) (
      nm (jor (jshl 1 (μ3 (x0 + 1) (nrm (11 + x5)))) (jshl 1 (μ3 (x0 + 1) (nrm (20 + x5))))) fun v9 => (
      if nrm (jand x2 v9) = 0 then (
        f_X12_areJoined_j77 k4 (f_X12_areJoined_w14 k4 n) x0 x1 x2 x4 x5 μ3)
      else (
        nm (jor x2 v9) fun v12 => (
        f_X12_areJoined_j77 k4 (f_X12_areJoined_w14 k4 n) x0 x1 v12 x4 x5 μ3))))))))
def f_X12_areJoined_w4 : Nat → Int → Int → Int → Int → Mem → Option (Int × Mem)
  | 0, _, _, _, _, _ => none
  | n + 1, x0, x1, x2, x3, μ =>
  if nrm x3 = 0 then (
    if nrm x2 = nrm ((jshl 1 (μ (x0 + 1) 1)) - 1) then (
      some (1, μ))
    else (
      some (0, μ)))
  else (
    f_X12_areJoined_w14 (f_X12_areJoined_w4 n) FU x0 x1 x2 x2 0 μ)
def f_X12_areJoined (x0 x1 : Int) (μ : Mem) : Option (Int × Mem) :=
  f_X12_areJoined_w4 FU x0 x1 1 1 μ
def f_X12_joins_j135 (k27 : Int → Int → Int → Int → Int → Mem → Option (Int × Mem)) (x0 x1 x2 x3 x4 : Int) (μ : Mem) : Option (Int × Mem) :=
  k27 x0 x1 x2 x3 (x4 + 1) μ
def f_X12_joins_j105 (k27 : Int → Int → Int → Int → Int → Mem → Option (Int × Mem)) (k46 : Int → Int → Int → Int → Int → Int → Int → Mem → Option (Int × Mem)) (x0 x1 x2 x3 x4 x5 x6 : Int) (μ : Mem) : Option (Int × Mem) :=
  k46 x0 x1 x2 x3 x4 x5 (x6 + 1) μ
def f_X12_joins_j103 (k27 : Int → Int → Int → Int → Int → Mem → Option (Int × Mem)) (k46 : Int → Int → Int → Int → Int → Int → Int → Mem → Option (Int × Mem)) (x0 x1 x2 x3 x4 x6 s0 : Int) (μ : Mem) : Option (Int × Mem) :=
  f_X12_joins_j105 k27 k46 x0 x1 x2 x3 x4 s0 x6 μ
def f_X12_joins_j88 (k27 : Int → Int → Int → Int → Int → Mem → Option (Int × Mem)) (k46 : Int → Int → Int → Int → Int → Int → Int → Mem → Option (Int × Mem)) (x0 x1 x2 x3 x4 x6 : Int) (μ : Mem) : Option (Int × Mem) :=
  f_X12_joins_j103 k27 k46 x0 x1 x2 x3 x4 x6 268435456 μ
def f_X12_joins_w46 (k27 : Int → Int → Int → Int → Int → Mem → Option (Int × Mem)) : Nat → Int → Int → Int → Int → Int → Int → Int → Mem → Option (Int × Mem)
  | 0, _, _, _, _, _, _, _, _ => none
  | n + 1, x0, x1, x2, x3, x4, x5, x6, μ =>
  if nrm (μ (x0 + 1) 2) ≤ nrm x6 then (
    if nrm x3 ≤ nrm x5 then (
      f_X12_joins_j135 k27 x0 x1 x2 x3 x4 μ)
    else (
      bn (f_X12_areJoined x0 x4 μ) fun r4 μ3 => (
      if nrm r4 = 0 then (
        f_X12_joins_j135 k27 x0 x1 x2 x3 x4 μ3)
      else (
        f_X12_joins_j135 k27 x0 x1 x4 x5 x4 μ3))))
  else (
    bn (f_X12_isIn (nrm x4) x6 μ) fun r8 μ7 => (
    if nrm r8 = 0 then (
      f_X12_joins_j105 k27 (f_X12_joins_w46 k27 n) x0 x1 x2 x3 x4 x5 x6 μ7)
    else (
      if nrm x5 = nrm 268435456 then (
        f_X12_joins_j88 k27 (f_X12_joins_w46 k27 n) x0 x1 x2 x3 x4 x6 μ7)
      else (
        bn (f_X12_costOf x0 x6 μ7) fun r13 μ12 => (
        if nrm r13 = nrm 268435456 then (
          f_X12_joins_j88 k27 (f_X12_joins_w46 k27 n) x0 x1 x2 x3 x4 x6 μ12)
        else (
          bn (f_X12_costOf x0 x6 μ12) fun r17 μ16 => (
          f_X12_joins_j103 k27 (f_X12_joins_w46 k27 n) x0 x1 x2 x3 x4 x6 (x5 + r17) μ16)))))))
def f_X12_joins_w27 : Nat → Int → Int → Int → Int → Int → Mem → Option (Int × Mem)
  | 0, _, _, _, _, _, _ => none
  | n + 1, x0, x1, x2, x3, x4, μ =>
  if nrm (jshl 1 (μ (x0 + 1) 2)) ≤ nrm x4 then (
    if nrm x2 = nrm (-1) then (
      some (x2, μ))
    else (
      if nrm x1 = nrm 1 then (
        some (x2, μ))
      else (
        some ((jdiv x3 1000), μ))))
  else (
    f_X12_joins_w46 (f_X12_joins_w27 n) FU x0 x1 x2 x3 x4 0 0 μ)
def f_X12_joins (x0 x1 : Int) (μ : Mem) : Option (Int × Mem) :=
  nm (ms μ x0 0 0) fun μ1 => (
  bn (f_X12_within (nrm x1) 0 1 μ1) fun r4 μ3 => (
  if nrm r4 = 0 then (
    some ((-2), μ3))
  else (
    f_X12_joins_w27 FU x0 x1 (-1) 268435456 0 μ3)))
def f_X12_shuts_j92 (k31 : Int → Int → Int → Int → Int → Mem → Option (Int × Mem)) (x0 x1 x2 x3 x4 : Int) (μ : Mem) : Option (Int × Mem) :=
  k31 x0 x1 x2 x3 (x4 + 1) μ
def f_X12_shuts_j64 (k31 : Int → Int → Int → Int → Int → Mem → Option (Int × Mem)) (x0 x1 x2 x3 x4 : Int) (μ : Mem) : Option (Int × Mem) :=
  bn (f_X12_everyLane x0 μ) fun r2 μ1 => (
  bn (f_X12_laysFar x0 (jand r2 (jxor x4 (-1))) μ1) fun r5 μ4 => (
  gd (0 ≤ nrm x1 ∧ nrm x1 < 7) (
  if nrm (μ4 (x0 + 8) (nrm x1)) = nrm 268435456 then (
    f_X12_shuts_j92 k31 x0 x1 x2 x4 x4 μ4)
  else (
    f_X12_shuts_j92 k31 x0 x1 x2 x3 x4 μ4))))
def f_X12_shuts_w31 : Nat → Int → Int → Int → Int → Int → Mem → Option (Int × Mem)
  | 0, _, _, _, _, _, _ => none
  | n + 1, x0, x1, x2, x3, x4, μ =>
  if nrm (jshl 1 (μ (x0 + 1) 2)) ≤ nrm x4 then (
    if nrm x3 = nrm (-1) then (
      some (x3, μ))
    else (
      if nrm x2 = nrm 1 then (
        some (x3, μ))
      else (
        bn (f_X12_bitsOf x3 μ) fun r5 μ4 => (
        some (r5, μ4)))))
  else (
    if nrm x3 = nrm (-1) then (
      f_X12_shuts_j64 (f_X12_shuts_w31 n) x0 x1 x2 x3 x4 μ)
    else (
      bn (f_X12_bitsOf x4 μ) fun r9 μ8 => (
      bn (f_X12_bitsOf x3 μ8) fun r12 μ11 => (
      if nrm r9 < nrm r12 then (
        f_X12_shuts_j64 (f_X12_shuts_w31 n) x0 x1 x2 x3 x4 μ11)
      else (
        f_X12_shuts_j92 (f_X12_shuts_w31 n) x0 x1 x2 x3 x4 μ11)))))
def f_X12_shuts (x0 x1 x2 : Int) (μ : Mem) : Option (Int × Mem) :=
  nm (ms μ x0 0 0) fun μ1 => (
  bn (f_X12_isPlace x0 x1 μ1) fun r4 μ3 => (
  if nrm r4 = 0 then (
    some ((-2), μ3))
  else (
    bn (f_X12_within (nrm x2) 0 1 μ3) fun r8 μ7 => (
    if nrm r8 = 0 then (
      some ((-2), μ7))
    else (
      f_X12_shuts_w31 FU x0 x1 x2 (-1) 0 μ7)))))
def f_X12_turnedTo_w7 : Nat → Int → Int → Mem → Option (Int × Mem)
  | 0, _, _, _ => none
  | n + 1, x0, x2, μ =>
  bn (f_X12_seasonTo x0 x2 μ) fun r2 μ1 => (
  if nrm r2 = nrm x2 then (
    some (x2, μ1))
  else (
    bn (f_X12_seasonTo x0 x2 μ1) fun r6 μ5 => (
    nm (ms μ5 x0 24 ((μ5 x0 24) + 1)) fun μ8 => (
    f_X12_turnedTo_w7 n x0 r6 μ8))))
def f_X12_turnedTo (x0 x1 : Int) (μ : Mem) : Option (Int × Mem) :=
  nm (ms μ x0 24 0) fun μ1 => (
  f_X12_turnedTo_w7 FU x0 x1 μ1)
def f_X12_turning (x0 x1 : Int) (μ : Mem) : Option (Int × Mem) :=
  nm (ms μ x0 0 0) fun μ1 => (
  bn (f_X12_within (nrm x1) 0 1 μ1) fun r4 μ3 => (
  if nrm r4 = 0 then (
    some ((-2), μ3))
  else (
    bn (f_X12_turnedTo x0 (μ3 (x0 + 1) 65) μ3) fun r8 μ7 => (
    if nrm x1 = 0 then (
      some (r8, μ7))
    else (
      some ((μ7 x0 24), μ7))))))
def f_X12_when_w38 : Nat → Int → Int → Int → Int → Mem → Option (Int × Mem)
  | 0, _, _, _, _, _ => none
  | n + 1, x0, x1, x2, x3, μ =>
  if nrm 8 < nrm x3 then (
    some ((-1), μ))
  else (
    bn (f_X12_seasonTo x0 x2 μ) fun r3 μ2 => (
    bn (f_X12_isIn (nrm r3) x1 μ2) fun r6 μ5 => (
    if nrm r6 = 0 then (
      f_X12_when_w38 n x0 x1 r3 (x3 + 1) μ5)
    else (
      some (x3, μ5)))))
def f_X12_when (x0 x1 : Int) (μ : Mem) : Option (Int × Mem) :=
  nm (ms μ x0 0 0) fun μ1 => (
  bn (f_X12_isPerson x0 (nrm x1) μ1) fun r4 μ3 => (
  if nrm r4 = 0 then (
    some ((-2), μ3))
  else (
    nm (μ3 (x0 + 1) 65) fun v7 => (
    bn (f_X12_isIn (nrm v7) x1 μ3) fun r10 μ9 => (
    if nrm r10 = 0 then (
      f_X12_when_w38 FU x0 x1 v7 1 μ9)
    else (
      some ((-1), μ9)))))))
def f_X12_starts_j94 (k34 : Int → Int → Int → Int → Int → Mem → Option (Int × Mem)) (x0 x1 x2 x3 x4 : Int) (μ : Mem) : Option (Int × Mem) :=
  k34 x0 x1 x2 x3 (x4 + 1) μ
def f_X12_starts_j73 (k34 : Int → Int → Int → Int → Int → Mem → Option (Int × Mem)) (x0 x1 x2 x3 x4 : Int) (μ : Mem) : Option (Int × Mem) :=
  bn (f_X12_turnedTo x0 (jor (μ (x0 + 1) 65) x4) μ) fun r2 μ1 => (
  if nrm r2 = nrm x2 then (
    f_X12_starts_j94 k34 x0 x1 x2 x4 x4 μ1)
  else (
    f_X12_starts_j94 k34 x0 x1 x2 x3 x4 μ1))
def f_X12_starts_w34 : Nat → Int → Int → Int → Int → Int → Mem → Option (Int × Mem)
  | 0, _, _, _, _, _, _ => none
  | n + 1, x0, x1, x2, x3, x4, μ =>
  if nrm x2 < nrm x4 then (
    if nrm x1 = 0 then (
      bn (f_X12_bitsOf x3 μ) fun r4 μ3 => (
      some (r4, μ3)))
    else (
      some (x3, μ)))
  else (
    if nrm (jand x4 (μ (x0 + 1) 65)) = 0 then (
      if nrm x3 = nrm (-1) then (
        f_X12_starts_j73 (f_X12_starts_w34 n) x0 x1 x2 x3 x4 μ)
      else (
        bn (f_X12_bitsOf x4 μ) fun r9 μ8 => (
        bn (f_X12_bitsOf x3 μ8) fun r12 μ11 => (
        if nrm r9 < nrm r12 then (
          f_X12_starts_j73 (f_X12_starts_w34 n) x0 x1 x2 x3 x4 μ11)
        else (
          f_X12_starts_j94 (f_X12_starts_w34 n) x0 x1 x2 x3 x4 μ11)))))
    else (
      f_X12_starts_j94 (f_X12_starts_w34 n) x0 x1 x2 x3 x4 μ))
def f_X12_starts (x0 x1 : Int) (μ : Mem) : Option (Int × Mem) :=
  nm (ms μ x0 0 0) fun μ1 => (
  bn (f_X12_within (nrm x1) 0 1 μ1) fun r4 μ3 => (
  if nrm r4 = 0 then (
    some ((-2), μ3))
  else (
    nm ((jshl 1 (μ3 (x0 + 1) 3)) - 1) fun v7 => (
    f_X12_starts_w34 FU x0 x1 v7 (-1) 0 μ3))))
def f_X12_noWorn_w34 : Nat → Int → Int → Int → Mem → Option (Int × Mem)
  | 0, _, _, _, _ => none
  | n + 1, x0, x1, x3, μ =>
  gd (0 ≤ nrm x1 ∧ nrm x1 < 4) (
  if nrm (μ (x0 + 16) (nrm x1)) ≤ nrm x3 then (
    some (0, μ))
  else (
    gd (0 ≤ nrm ((40 * x1) + x3) ∧ nrm ((40 * x1) + x3) < 160) (
    nm (μ (x0 + 17) (nrm ((40 * x1) + x3))) fun v4 => (
    if nrm (kcmp v4 0) < 0 then (
      some ((-3), μ))
    else (
      bn (f_X12_isLane x0 (kdiv v4 10) μ) fun r8 μ7 => (
      if nrm r8 = 0 then (
        some ((-3), μ7))
      else (
        if nrm (kcmp (krem v4 10) 6) ≤ 0 then (
          f_X12_noWorn_w34 n x0 x1 (x3 + 1) μ7)
        else (
          some ((-3), μ7)))))))))
def f_X12_noWorn (x0 x1 : Int) (μ : Mem) : Option (Int × Mem) :=
  bn (f_X12_noTray x0 x1 μ) fun r2 μ1 => (
  if nrm r2 = 0 then (
    gd (0 ≤ nrm x1 ∧ nrm x1 < 4) (
    bn (f_X12_within (nrm (μ1 (x0 + 16) (nrm x1))) 1 8 μ1) fun r7 μ6 => (
    if nrm r7 = 0 then (
      some ((-4), μ6))
    else (
      f_X12_noWorn_w34 FU x0 x1 0 μ6))))
  else (
    some (r2, μ1)))
def f_X12_rainsOf_j102 (k4 : Int → Int → Int → Int → Mem → Option (Int × Mem)) (x0 x1 x3 s0 s1 : Int) (μ : Mem) : Option (Int × Mem) :=
  nm (jor s0 s1) fun v1 => (
  k4 x0 x1 v1 (x3 + 1) μ)
def f_X12_rainsOf_j80 (k4 : Int → Int → Int → Int → Mem → Option (Int × Mem)) (k16 : Int → Int → Int → Int → Int → Int → Mem → Option (Int × Mem)) (x0 x1 x2 x3 x5 s0 s1 : Int) (μ : Mem) : Option (Int × Mem) :=
  nm (jand s0 s1) fun v1 => (
  k16 x0 x1 x2 x3 v1 (x5 + 1) μ)
def f_X12_rainsOf_w16 (k4 : Int → Int → Int → Int → Mem → Option (Int × Mem)) : Nat → Int → Int → Int → Int → Int → Int → Mem → Option (Int × Mem)
  | 0, _, _, _, _, _, _, _ => none
  | n + 1, x0, x1, x2, x3, x4, x5, μ =>
  gd (0 ≤ nrm x1 ∧ nrm x1 < 4) (
  if nrm (μ (x0 + 16) (nrm x1)) ≤ nrm x5 then (
    if nrm x4 = 0 then (
      f_X12_rainsOf_j102 k4 x0 x1 x3 x2 0 μ)
    else (
      f_X12_rainsOf_j102 k4 x0 x1 x3 x2 (jshl 1 x3) μ))
  else (
    gd (0 ≤ nrm ((40 * x1) + x5) ∧ nrm ((40 * x1) + x5) < 160) (
    nm (μ (x0 + 17) (nrm ((40 * x1) + x5))) fun v5 => (
    gd (0 ≤ nrm (56 + (jdiv v5 10)) ∧ nrm (56 + (jdiv v5 10)) < 3300) (
    bn (f_X12_wornTo x0 (jdiv v5 10) (μ (x0 + 1) (nrm (56 + (jdiv v5 10)))) x3 μ) fun r9 μ8 => (
    if nrm r9 = nrm (jrem v5 10) then (
      f_X12_rainsOf_j80 k4 (f_X12_rainsOf_w16 k4 n) x0 x1 x2 x3 x5 x4 1 μ8)
    else (
      f_X12_rainsOf_j80 k4 (f_X12_rainsOf_w16 k4 n) x0 x1 x2 x3 x5 x4 0 μ8)))))))
def f_X12_rainsOf_w4 : Nat → Int → Int → Int → Int → Mem → Option (Int × Mem)
  | 0, _, _, _, _, _ => none
  | n + 1, x0, x1, x2, x3, μ =>
  if nrm 10 ≤ nrm x3 then (
    some (x2, μ))
  else (
    f_X12_rainsOf_w16 (f_X12_rainsOf_w4 n) FU x0 x1 x2 x3 1 0 μ)
def f_X12_rainsOf (x0 x1 : Int) (μ : Mem) : Option (Int × Mem) :=
  f_X12_rainsOf_w4 FU x0 x1 0 0 μ
def f_X12_rains (x0 x1 : Int) (μ : Mem) : Option (Int × Mem) :=
  nm (ms μ x0 0 0) fun μ1 => (
  bn (f_X12_noWorn x0 x1 μ1) fun r4 μ3 => (
  if nrm r4 = 0 then (
    bn (f_X12_rainsOf x0 x1 μ3) fun r8 μ7 => (
    some (r8, μ7)))
  else (
    some (r4, μ3))))
def f_X12_mostOften_j101 (k29 : Int → Int → Int → Int → Int → Mem → Option (Int × Mem)) (x0 x1 x2 x3 x4 : Int) (μ : Mem) : Option (Int × Mem) :=
  k29 x0 x1 x2 x3 (x4 + 1) μ
def f_X12_mostOften_j100 (k29 : Int → Int → Int → Int → Int → Mem → Option (Int × Mem)) (x0 x1 x2 x4 s0 : Int) (μ : Mem) : Option (Int × Mem) :=
  f_X12_mostOften_j101 k29 x0 x1 x2 s0 x4 μ
def f_X12_mostOften_w29 : Nat → Int → Int → Int → Int → Int → Mem → Option (Int × Mem)
  | 0, _, _, _, _, _, _ => none
  | n + 1, x0, x1, x2, x3, x4, μ =>
  if nrm 10 ≤ nrm x4 then (
    some (x3, μ))
  else (
    bn (f_X12_isIn (nrm x2) x4 μ) fun r3 μ2 => (
    if nrm r3 = 0 then (
      f_X12_mostOften_j101 (f_X12_mostOften_w29 n) x0 x1 x2 x3 x4 μ2)
    else (
      gd (0 ≤ nrm (56 + x1) ∧ nrm (56 + x1) < 3300) (
      bn (f_X12_wornTo x0 x1 (μ2 (x0 + 1) (nrm (56 + x1))) x4 μ2) fun r8 μ7 => (
      gd (0 ≤ nrm r8 ∧ nrm r8 < 7) (
      gd (0 ≤ nrm r8 ∧ nrm r8 < 7) (
      nm (ms μ7 (x0 + 11) (nrm r8) ((μ7 (x0 + 11) (nrm r8)) + 1)) fun μ11 => (
      gd (0 ≤ nrm r8 ∧ nrm r8 < 7) (
      if nrm (μ11 (x0 + 11) (nrm r8)) ≤ nrm x3 then (
        f_X12_mostOften_j100 (f_X12_mostOften_w29 n) x0 x1 x2 x4 x3 μ11)
      else (
        gd (0 ≤ nrm r8 ∧ nrm r8 < 7) (
        f_X12_mostOften_j100 (f_X12_mostOften_w29 n) x0 x1 x2 x4 (μ11 (x0 + 11) (nrm r8)) μ11)))))))))))
def f_X12_mostOften_w5 : Nat → Int → Int → Int → Int → Int → Mem → Option (Int × Mem)
  | 0, _, _, _, _, _, _ => none
  | n + 1, x0, x1, x2, x3, x4, μ =>
  if nrm 6 < nrm x4 then (
    f_X12_mostOften_w29 FU x0 x1 x2 x3 0 μ)
  else (
    gd (0 ≤ nrm x4 ∧ nrm x4 < 7) (
    nm (ms μ (x0 + 11) (nrm x4) 0) fun μ2 => (
    f_X12_mostOften_w5 n x0 x1 x2 x3 (x4 + 1) μ2)))
def f_X12_mostOften (x0 x1 x2 : Int) (μ : Mem) : Option (Int × Mem) :=
  f_X12_mostOften_w5 FU x0 x1 x2 0 0 μ
def f_X12_attempt_j76 (k34 : Int → Int → Int → Int → Int → Mem → Option (Int × Mem)) (x0 x3 x4 x5 x6 : Int) (μ : Mem) : Option (Int × Mem) :=
  k34 x0 x3 x4 x5 (x6 + 1) μ
def f_X12_attempt_w34 : Nat → Int → Int → Int → Int → Int → Mem → Option (Int × Mem)
  | 0, _, _, _, _, _, _ => none
  | n + 1, x0, x3, x4, x5, x6, μ =>
  if nrm (μ (x0 + 1) 2) ≤ nrm x6 then (
    some (x4, μ))
  else (
    if nrm x3 = 0 then (
      some (x4, μ))
    else (
      bn (f_X12_mostOften x0 x6 x3 μ) fun r4 μ3 => (
      if nrm r4 < nrm x5 then (
        f_X12_attempt_j76 (f_X12_attempt_w34 n) x0 x3 x6 r4 x6 μ3)
      else (
        f_X12_attempt_j76 (f_X12_attempt_w34 n) x0 x3 x4 x5 x6 μ3))))
def f_X12_attempt (x0 x1 : Int) (μ : Mem) : Option (Int × Mem) :=
  nm (ms μ x0 0 0) fun μ1 => (
  bn (f_X12_noWorn x0 x1 μ1) fun r4 μ3 => (
  if nrm r4 = 0 then (
    bn (f_X12_rainsOf x0 x1 μ3) fun r8 μ7 => (
    f_X12_attempt_w34 FU x0 r8 (-1) 268435456 0 μ7))
  else (
    some (r4, μ3))))
def f_X12_winsAt_j62 (rec : Nat → Int → Int → Int → Int → Mem → Option (Int × Mem)) (x0 x3 x4 : Int) (μ : Mem) : Option (Int × Mem) :=
  gd (0 ≤ nrm x3 ∧ nrm x3 < 3584) (
  nm (ms μ (x0 + 13) (nrm x3) 1) fun μ1 => (
  gd (0 ≤ nrm x3 ∧ nrm x3 < 3584) (
  gd (isB x4) (
  nm (ms μ1 (x0 + 12) (nrm x3) x4) fun μ4 => (
  gd (isB x4) (
  some (x4, μ4)))))))
def f_X12_winsAt_w30 (rec : Nat → Int → Int → Int → Int → Mem → Option (Int × Mem)) : Nat → Int → Int → Int → Int → Int → Int → Mem → Option (Int × Mem)
  | 0, _, _, _, _, _, _, _ => none
  | n + 1, x0, x1, x2, x3, x4, x5, μ =>
  if nrm (μ (x0 + 1) 2) ≤ nrm x5 then (
    f_X12_winsAt_j62 rec x0 x3 x4 μ)
  else (
    if nrm x4 = 0 then (
      bn (rec 1 x0 x5 x1 x2 μ) fun r4 μ3 => (
      f_X12_winsAt_w30 rec n x0 x1 x2 x3 r4 (x5 + 1) μ3))
    else (
      f_X12_winsAt_j62 rec x0 x3 x4 μ))
def b_X12_winsAt (rec : Nat → Int → Int → Int → Int → Mem → Option (Int × Mem)) (x0 x1 x2 : Int) (μ : Mem) : Option (Int × Mem) :=
  nm ((512 * x1) + x2) fun v1 => (
  gd (0 ≤ nrm v1 ∧ nrm v1 < 3584) (
  if nrm (μ (x0 + 13) (nrm v1)) = 0 then (
    f_X12_winsAt_w30 rec FU x0 x1 x2 v1 0 0 μ)
  else (
    gd (0 ≤ nrm v1 ∧ nrm v1 < 3584) (
    gd (isB (μ (x0 + 12) (nrm v1))) (
    some ((μ (x0 + 12) (nrm v1)), μ))))))
def b_X12_winsBy (rec : Nat → Int → Int → Int → Int → Mem → Option (Int × Mem)) (x0 x1 x2 x3 : Int) (μ : Mem) : Option (Int × Mem) :=
  bn (f_X12_otherEnd x0 x1 x2 μ) fun r2 μ1 => (
  if nrm r2 = nrm (-1) then (
    some (0, μ1))
  else (
    bn (f_X12_isIn (nrm x3) x1 μ1) fun r6 μ5 => (
    if nrm r6 = 0 then (
      bn (f_X12_isOpen x0 x1 μ5) fun r10 μ9 => (
      if nrm r10 = 0 then (
        some (0, μ9))
      else (
        bn (rec 0 x0 r2 (jor x3 (jshl 1 x1)) 0 μ9) fun r14 μ13 => (
        if nrm r14 = 0 then (
          some (1, μ13))
        else (
          some (0, μ13))))))
    else (
      some (0, μ5)))))
def g_X12_winsAt : Nat → Nat → Int → Int → Int → Int → Mem → Option (Int × Mem)
  | 0, _, _, _, _, _, _ => none
  | n + 1, sel, a0, a1, a2, a3, μ => if sel = 0 then b_X12_winsAt (g_X12_winsAt n) a0 a1 a2 μ else if sel = 1 then b_X12_winsBy (g_X12_winsAt n) a0 a1 a2 a3 μ else none
def f_X12_winsAt (x0 x1 x2 : Int) (μ : Mem) : Option (Int × Mem) := g_X12_winsAt 64 0 x0 x1 x2 0 μ
def f_X12_winsBy (x0 x1 x2 x3 : Int) (μ : Mem) : Option (Int × Mem) := g_X12_winsAt 64 1 x0 x1 x2 x3 μ
def f_X12_forgets_w2 : Nat → Int → Int → Mem → Option (Int × Mem)
  | 0, _, _, _ => none
  | n + 1, x0, x1, μ =>
  if nrm 3584 ≤ nrm x1 then (
    some (0, μ))
  else (
    gd (0 ≤ nrm x1 ∧ nrm x1 < 3584) (
    nm (ms μ (x0 + 13) (nrm x1) 0) fun μ2 => (
    f_X12_forgets_w2 n x0 (x1 + 1) μ2)))
def f_X12_forgets (x0 : Int) (μ : Mem) : Option (Int × Mem) :=
  f_X12_forgets_w2 FU x0 0 μ
def f_X12_wins (x0 : Int) (μ : Mem) : Option (Int × Mem) :=
  nm (ms μ x0 0 0) fun μ1 => (
  bn (f_X12_forgets x0 μ1) fun r4 μ3 => (
  bn (f_X12_winsAt x0 (μ3 (x0 + 1) 55) 0 μ3) fun r7 μ6 => (
  if nrm r7 = 0 then (
    some (0, μ6))
  else (
    some (1, μ6)))))
def f_X12_best_w11 : Nat → Int → Int → Mem → Option (Int × Mem)
  | 0, _, _, _ => none
  | n + 1, x0, x1, μ =>
  if nrm (μ (x0 + 1) 2) ≤ nrm x1 then (
    some ((-1), μ))
  else (
    bn (f_X12_winsBy x0 x1 (μ (x0 + 1) 55) 0 μ) fun r3 μ2 => (
    if nrm r3 = 0 then (
      f_X12_best_w11 n x0 (x1 + 1) μ2)
    else (
      some (x1, μ2))))
def f_X12_best (x0 : Int) (μ : Mem) : Option (Int × Mem) :=
  nm (ms μ x0 0 0) fun μ1 => (
  bn (f_X12_forgets x0 μ1) fun r4 μ3 => (
  f_X12_best_w11 FU x0 0 μ3))
def f_X12_wholeOf_w4 : Nat → Int → Int → Int → Mem → Option (Int × Mem)
  | 0, _, _, _, _ => none
  | n + 1, x0, x1, x2, μ =>
  if nrm x0 ≤ nrm x2 then (
    some (x1, μ))
  else (
    nm (x1 * 10) fun v2 => (
    f_X12_wholeOf_w4 n x0 v2 (x2 + 1) μ))
def f_X12_wholeOf (x0 : Int) (μ : Mem) : Option (Int × Mem) :=
  f_X12_wholeOf_w4 FU x0 1 0 μ
def f_X12_likelyBy (x0 x1 x2 x3 : Int) (μ : Mem) : Option (Int × Mem) :=
  bn (f_X12_otherEnd x0 x1 x2 μ) fun r2 μ1 => (
  if nrm r2 = nrm (-1) then (
    some ((-1), μ1))
  else (
    bn (f_X12_isOpen x0 x1 μ1) fun r6 μ5 => (
    if nrm r6 = 0 then (
      some ((-1), μ5))
    else (
      gd (0 ≤ nrm (38 + x1) ∧ nrm (38 + x1) < 3300) (
      gd (0 ≤ nrm ((7 * (x3 - 1)) + r2) ∧ nrm ((7 * (x3 - 1)) + r2) < 56) (
      some (((10 - (μ5 (x0 + 1) (nrm (38 + x1)))) * (μ5 (x0 + 14) (nrm ((7 * (x3 - 1)) + r2)))), μ5)))))))
def f_X12_laysLikely_j97 (k2 : Int → Int → Int → Int → Mem → Option (Int × Mem)) (k10 : Int → Int → Int → Int → Int → Mem → Option (Int × Mem)) (x0 x1 x2 x3 x4 x5 : Int) (μ : Mem) : Option (Int × Mem) :=
  gd (0 ≤ nrm ((7 * x3) + x4) ∧ nrm ((7 * x3) + x4) < 56) (
  nm (ms μ (x0 + 14) (nrm ((7 * x3) + x4)) x5) fun μ1 => (
  k10 x0 x1 x2 x3 (x4 + 1) μ1))
def f_X12_laysLikely_j89 (k2 : Int → Int → Int → Int → Mem → Option (Int × Mem)) (k10 : Int → Int → Int → Int → Int → Mem → Option (Int × Mem)) (k40 : Int → Int → Int → Int → Int → Int → Int → Mem → Option (Int × Mem)) (x0 x1 x2 x3 x4 x6 s0 : Int) (μ : Mem) : Option (Int × Mem) :=
  k40 x0 x1 x2 x3 x4 s0 (x6 + 1) μ
def f_X12_laysLikely_w40 (k2 : Int → Int → Int → Int → Mem → Option (Int × Mem)) (k10 : Int → Int → Int → Int → Int → Mem → Option (Int × Mem)) : Nat → Int → Int → Int → Int → Int → Int → Int → Mem → Option (Int × Mem)
  | 0, _, _, _, _, _, _, _, _ => none
  | n + 1, x0, x1, x2, x3, x4, x5, x6, μ =>
  if nrm (μ (x0 + 1) 2) ≤ nrm x6 then (
    f_X12_laysLikely_j97 k2 k10 x0 x1 x2 x3 x4 x5 μ)
  else (
    if nrm x3 ≤ 0 then (
      f_X12_laysLikely_j97 k2 k10 x0 x1 x2 x3 x4 x5 μ)
    else (
      if nrm x4 = nrm x1 then (
        f_X12_laysLikely_j97 k2 k10 x0 x1 x2 x3 x4 x5 μ)
      else (
        bn (f_X12_likelyBy x0 x6 x4 x3 μ) fun r5 μ4 => (
        if nrm r5 ≤ nrm x5 then (
          f_X12_laysLikely_j89 k2 k10 (f_X12_laysLikely_w40 k2 k10 n) x0 x1 x2 x3 x4 x6 x5 μ4)
        else (
          bn (f_X12_likelyBy x0 x6 x4 x3 μ4) fun r9 μ8 => (
          f_X12_laysLikely_j89 k2 k10 (f_X12_laysLikely_w40 k2 k10 n) x0 x1 x2 x3 x4 x6 r9 μ8))))))
def f_X12_laysLikely_j35 (k2 : Int → Int → Int → Int → Mem → Option (Int × Mem)) (k10 : Int → Int → Int → Int → Int → Mem → Option (Int × Mem)) (x0 x1 x2 x3 x4 s0 : Int) (μ : Mem) : Option (Int × Mem) :=
  f_X12_laysLikely_w40 k2 k10 FU x0 x1 x2 x3 x4 s0 0 μ
def f_X12_laysLikely_w10 (k2 : Int → Int → Int → Int → Mem → Option (Int × Mem)) : Nat → Int → Int → Int → Int → Int → Mem → Option (Int × Mem)
  | 0, _, _, _, _, _, _ => none
  | n + 1, x0, x1, x2, x3, x4, μ =>
  if nrm (μ (x0 + 1) 1) ≤ nrm x4 then (
    k2 x0 x1 x2 (x3 + 1) μ)
  else (
    if nrm x4 = nrm x1 then (
      bn (f_X12_wholeOf x3 μ) fun r4 μ3 => (
      f_X12_laysLikely_j35 k2 (f_X12_laysLikely_w10 k2 n) x0 x1 x2 x3 x4 r4 μ3))
    else (
      f_X12_laysLikely_j35 k2 (f_X12_laysLikely_w10 k2 n) x0 x1 x2 x3 x4 0 μ))
def f_X12_laysLikely_w2 : Nat → Int → Int → Int → Int → Mem → Option (Int × Mem)
  | 0, _, _, _, _, _ => none
  | n + 1, x0, x1, x2, x3, μ =>
  if nrm x2 < nrm x3 then (
    gd (0 ≤ nrm ((7 * x2) + (μ (x0 + 1) 55)) ∧ nrm ((7 * x2) + (μ (x0 + 1) 55)) < 56) (
    some ((μ (x0 + 14) (nrm ((7 * x2) + (μ (x0 + 1) 55)))), μ)))
  else (
    f_X12_laysLikely_w10 (f_X12_laysLikely_w2 n) FU x0 x1 x2 x3 0 μ)
def f_X12_laysLikely (x0 x1 x2 : Int) (μ : Mem) : Option (Int × Mem) :=
  f_X12_laysLikely_w2 FU x0 x1 x2 0 μ
def b_X12_common (rec : Nat → Int → Int → Mem → Option (Int × Mem)) (x0 x1 : Int) (μ : Mem) : Option (Int × Mem) :=
  if nrm x1 = 0 then (
    some (x0, μ))
  else (
    gd (nrm x1 ≠ 0) (
    bn (rec 0 x1 (jrem x0 x1) μ) fun r4 μ3 => (
    some (r4, μ3))))
def g_X12_common : Nat → Nat → Int → Int → Mem → Option (Int × Mem)
  | 0, _, _, _, _ => none
  | n + 1, sel, a0, a1, μ => if sel = 0 then b_X12_common (g_X12_common n) a0 a1 μ else none
def f_X12_common (x0 x1 : Int) (μ : Mem) : Option (Int × Mem) := g_X12_common 64 0 x0 x1 μ
def f_X12_chance_j62 (x2 x4 s0 : Int) (μ : Mem) : Option (Int × Mem) :=
  bn (f_X12_wholeOf x2 μ) fun r2 μ1 => (
  bn (f_X12_common x4 r2 μ1) fun r5 μ4 => (
  gd (nrm r5 ≠ 0) (
  some ((jdiv s0 r5), μ4))))
def f_X12_chance (x0 x1 x2 x3 : Int) (μ : Mem) : Option (Int × Mem) :=
  nm (ms μ x0 0 0) fun μ1 => (
  bn (f_X12_isPlace x0 x1 μ1) fun r4 μ3 => (
  if nrm r4 = 0 then (
    some ((-2), μ3))
  else (
    bn (f_X12_within (nrm x3) 0 1 μ3) fun r8 μ7 => (
    if nrm r8 = 0 then (
      some ((-2), μ7))
    else (
      bn (f_X12_within (nrm x2) 0 7 μ7) fun r12 μ11 => (
      if nrm r12 = 0 then (
        some ((-3), μ11))
      else (
        bn (f_X12_laysLikely x0 x1 x2 μ11) fun r16 μ15 => (
        if nrm x3 = 0 then (
          f_X12_chance_j62 x2 r16 r16 μ15)
        else (
          bn (f_X12_wholeOf x2 μ15) fun r20 μ19 => (
          f_X12_chance_j62 x2 r16 r20 μ19))))))))))
def f_X12_bestBy_w58 : Nat → Int → Int → Int → Int → Mem → Option (Int × Mem)
  | 0, _, _, _, _, _ => none
  | n + 1, x0, x2, x3, x4, μ =>
  bn (f_X12_likelyBy x0 x4 (μ (x0 + 1) 55) x2 μ) fun r2 μ1 => (
  if nrm r2 = nrm x3 then (
    some (x4, μ1))
  else (
    f_X12_bestBy_w58 n x0 x2 x3 (x4 + 1) μ1))
def f_X12_bestBy (x0 x1 x2 : Int) (μ : Mem) : Option (Int × Mem) :=
  nm (ms μ x0 0 0) fun μ1 => (
  bn (f_X12_isPlace x0 x1 μ1) fun r4 μ3 => (
  if nrm r4 = 0 then (
    some ((-2), μ3))
  else (
    bn (f_X12_within (nrm x2) 0 7 μ3) fun r8 μ7 => (
    if nrm r8 = 0 then (
      some ((-3), μ7))
    else (
      bn (f_X12_laysLikely x0 x1 x2 μ7) fun r12 μ11 => (
      if nrm r12 = 0 then (
        some ((-1), μ11))
      else (
        if nrm x1 = nrm (μ11 (x0 + 1) 55) then (
          some ((-1), μ11))
        else (
          f_X12_bestBy_w58 FU x0 x2 r12 0 μ11))))))))
def f_X12_cut (x0 x2 : Int) (μ : Mem) : Option (Int × Mem) :=
  if nrm x2 = 0 then (
    some ((nrm (jb x0)), μ))
  else (
    if nrm x2 = nrm 1 then (
      some ((nrm (js x0)), μ))
    else (
      if nrm x2 = nrm 2 then (
        some ((nrm x0), μ))
      else (
        some (x0, μ))))
def f_X12_numbers_w64 : Nat → Int → Int → Int → Int → Mem → Option (Int × Mem)
  | 0, _, _, _, _, _ => none
  | n + 1, x0, x1, x3, x4, μ =>
  if nrm x3 ≤ nrm x4 then (
    some (0, μ))
  else (
    gd (0 ≤ nrm ((40 * x1) + x4) ∧ nrm ((40 * x1) + x4) < 160) (
    nm (ms μ (x0 + 17) (nrm ((40 * x1) + x4)) 0) fun μ2 => (
    f_X12_numbers_w64 n x0 x1 x3 (x4 + 1) μ2)))
def f_X12_numbers (x0 x1 x2 x3 : Int) (μ : Mem) : Option (Int × Mem) :=
  nm (ms μ x0 0 0) fun μ1 => (
  bn (f_X12_within (nrm x1) 0 3 μ1) fun r4 μ3 => (
  if nrm r4 = 0 then (
    some ((-2), μ3))
  else (
    bn (f_X12_within (nrm x2) 0 3 μ3) fun r8 μ7 => (
    if nrm r8 = 0 then (
      some ((-2), μ7))
    else (
      bn (f_X12_within (nrm x3) 0 40 μ7) fun r12 μ11 => (
      if nrm r12 = 0 then (
        some ((-3), μ11))
      else (
        gd (0 ≤ nrm x1 ∧ nrm x1 < 4) (
        nm (ms μ11 (x0 + 15) (nrm x1) x2) fun μ15 => (
        gd (0 ≤ nrm x1 ∧ nrm x1 < 4) (
        nm (ms μ15 (x0 + 16) (nrm x1) x3) fun μ18 => (
        f_X12_numbers_w64 FU x0 x1 x3 0 μ18)))))))))))
def f_X12_write (x0 x1 x2 x3 : Int) (μ : Mem) : Option (Int × Mem) :=
  nm (ms μ x0 0 0) fun μ1 => (
  bn (f_X12_noTray x0 x1 μ1) fun r4 μ3 => (
  if nrm r4 = 0 then (
    gd (0 ≤ nrm x1 ∧ nrm x1 < 4) (
    bn (f_X12_within (nrm x2) 0 (nrm ((μ3 (x0 + 16) (nrm x1)) - 1)) μ3) fun r9 μ8 => (
    if nrm r9 = 0 then (
      some ((-7), μ8))
    else (
      gd (0 ≤ nrm x1 ∧ nrm x1 < 4) (
      bn (f_X12_cut x3 (μ8 (x0 + 15) (nrm x1)) μ8) fun r14 μ13 => (
      gd (0 ≤ nrm ((40 * x1) + x2) ∧ nrm ((40 * x1) + x2) < 160) (
      nm (ms μ13 (x0 + 17) (nrm ((40 * x1) + x2)) r14) fun μ16 => (
      gd (0 ≤ nrm ((40 * x1) + x2) ∧ nrm ((40 * x1) + x2) < 160) (
      some ((μ16 (x0 + 17) (nrm ((40 * x1) + x2))), μ16))))))))))
  else (
    some ((nrm r4), μ3))))
def f_X12_lists_w93 : Nat → Int → Int → Int → Int → Mem → Option (Int × Mem)
  | 0, _, _, _, _, _ => none
  | n + 1, x0, x1, x5, x6, μ =>
  if nrm x5 ≤ nrm x6 then (
    some (x5, μ))
  else (
    bn (f_X12_laneAt x0 x6 μ) fun r3 μ2 => (
    gd (0 ≤ nrm ((40 * x1) + x6) ∧ nrm ((40 * x1) + x6) < 160) (
    nm (ms μ2 (x0 + 17) (nrm ((40 * x1) + x6)) (nrm r3)) fun μ5 => (
    f_X12_lists_w93 n x0 x1 x5 (x6 + 1) μ5))))
def f_X12_lists_j88 (x0 x1 s0 : Int) (μ : Mem) : Option (Int × Mem) :=
  f_X12_lists_w93 FU x0 x1 s0 0 μ
def f_X12_lists (x0 x1 x2 : Int) (μ : Mem) : Option (Int × Mem) :=
  nm (ms μ x0 0 0) fun μ1 => (
  bn (f_X12_within (nrm x1) 0 3 μ1) fun r4 μ3 => (
  if nrm r4 = 0 then (
    some ((-2), μ3))
  else (
    bn (f_X12_isPlace x0 x2 μ3) fun r8 μ7 => (
    if nrm r8 = 0 then (
      some ((-2), μ7))
    else (
      bn (f_X12_noTray x0 x1 μ7) fun r12 μ11 => (
      if nrm r12 = 0 then (
        bn (f_X12_laysCost x0 x2 μ11) fun r16 μ15 => (
        if nrm r16 = nrm 268435456 then (
          some ((-5), μ15))
        else (
          gd (0 ≤ nrm x1 ∧ nrm x1 < 4) (
          if nrm (μ15 (x0 + 16) (nrm x1)) ≤ nrm (jrem r16 1000) then (
            gd (0 ≤ nrm x1 ∧ nrm x1 < 4) (
            f_X12_lists_j88 x0 x1 (μ15 (x0 + 16) (nrm x1)) μ15))
          else (
            f_X12_lists_j88 x0 x1 (jrem r16 1000) μ15)))))
      else (
        some (r12, μ11))))))))
def f_X12_image_w20 : Nat → Int → Int → Int → Mem → Option (Int × Mem)
  | 0, _, _, _, _ => none
  | n + 1, x0, x1, x2, μ =>
  if nrm 1100 ≤ nrm x2 then (
    gd (0 ≤ nrm x1 ∧ nrm x1 < 2) (
    nm (ms μ (x0 + 2) (nrm x1) 1) fun μ2 => (
    some (0, μ2))))
  else (
    gd (0 ≤ nrm x2 ∧ nrm x2 < 3300) (
    gd (0 ≤ nrm ((1100 * (x1 + 1)) + x2) ∧ nrm ((1100 * (x1 + 1)) + x2) < 3300) (
    nm (ms μ (x0 + 1) (nrm ((1100 * (x1 + 1)) + x2)) (μ (x0 + 1) (nrm x2))) fun μ6 => (
    f_X12_image_w20 n x0 x1 (x2 + 1) μ6))))
def f_X12_image (x0 x1 : Int) (μ : Mem) : Option (Int × Mem) :=
  nm (ms μ x0 0 0) fun μ1 => (
  bn (f_X12_within (nrm x1) 0 1 μ1) fun r4 μ3 => (
  if nrm r4 = 0 then (
    some ((-2), μ3))
  else (
    f_X12_image_w20 FU x0 x1 0 μ3)))
def f_X12_restore_w32 : Nat → Int → Int → Int → Mem → Option (Int × Mem)
  | 0, _, _, _, _ => none
  | n + 1, x0, x1, x2, μ =>
  if nrm 1100 ≤ nrm x2 then (
    nm (ms μ (x0 + 1) 68 0) fun μ2 => (
    some (0, μ2)))
  else (
    gd (0 ≤ nrm ((1100 * (x1 + 1)) + x2) ∧ nrm ((1100 * (x1 + 1)) + x2) < 3300) (
    gd (0 ≤ nrm x2 ∧ nrm x2 < 3300) (
    nm (ms μ (x0 + 1) (nrm x2) (μ (x0 + 1) (nrm ((1100 * (x1 + 1)) + x2)))) fun μ5 => (
    f_X12_restore_w32 n x0 x1 (x2 + 1) μ5))))
def f_X12_restore (x0 x1 : Int) (μ : Mem) : Option (Int × Mem) :=
  nm (ms μ x0 0 0) fun μ1 => (
  bn (f_X12_within (nrm x1) 0 1 μ1) fun r4 μ3 => (
  if nrm r4 = 0 then (
    some ((-2), μ3))
  else (
    gd (0 ≤ nrm x1 ∧ nrm x1 < 2) (
    if nrm (μ3 (x0 + 2) (nrm x1)) = 0 then (
      some ((-5), μ3))
    else (
      f_X12_restore_w32 FU x0 x1 0 μ3)))))
def f_X12_count (x0 x1 : Int) (μ : Mem) : Option (Int × Mem) :=
  nm (ms μ x0 0 0) fun μ1 => (
  if nrm x1 = 0 then (
    some ((μ1 (x0 + 1) 1), μ1))
  else (
  if nrm x1 = 1 then (
    some ((μ1 (x0 + 1) 2), μ1))
  else (
  if nrm x1 = 2 then (
    some ((μ1 (x0 + 1) 3), μ1))
  else (
  if nrm x1 = 3 then (
    some ((μ1 (x0 + 1) 55), μ1))
  else (
  if nrm x1 = 4 then (
    some ((μ1 (x0 + 1) 4), μ1))
  else (
  if nrm x1 = 5 then (
    some ((μ1 (x0 + 1) 66), μ1))
  else (
  if nrm x1 = 6 then (
    some ((μ1 (x0 + 1) 65), μ1))
  else (
  if nrm x1 = 7 then (
    bn (f_X12_depthSum x0 μ1) fun r12 μ11 => (
    some (r12, μ11)))
  else (
  if nrm x1 = 8 then (
    some ((μ1 (x0 + 1) 67), μ1))
  else (
  if nrm x1 = 9 then (
    some ((μ1 (x0 + 1) 68), μ1))
  else (
  if nrm x1 = 10 then (
    some ((μ1 x0 5), μ1))
  else (
  if nrm x1 = 11 then (
    some ((μ1 (x0 + 1) 0), μ1))
  else (
  some ((-1), μ1))))))))))))))
def f_J1_canEncode_9a6ad (x0 : Int) (μ : Mem) : Option (Int × Mem) :=
  if nrm x0 < 0 then (
    some (0, μ))
  else (
    if nrm 255 < nrm x0 then (
      some (0, μ))
    else (
      some (1, μ)))
