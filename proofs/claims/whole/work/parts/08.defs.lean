/-! Every method as a pure function: written by wip/whole/gen.py out of the bytecode. -/
def fX3_append_3  : Nat → Nat → Int32 → Int32 → Mem → Option (Mem)
  | 0, _, _, _, _ => none
  | n + 1, o, x1, x2, M =>
    if x2 < 0 then
      some M
    else
      ck (ib (M.1 o 1) 800) <|
      fX3_append_3  n o x1 (x2 + (-8 : Int32)) (pI (pI M (o + 1) (tn (M.1 o 1)) (vp_nar .byte ((x1 >>> (x2 &&& 31))).toInt8.toInt32)) o 1 (((pI M (o + 1) (tn (M.1 o 1)) (vp_nar .byte ((x1 >>> (x2 &&& 31))).toInt8.toInt32)).1 o 1) + (1 : Int32)))
def fX3_append (o : Nat) (x1 : Int32) (M : Mem) : Option (Mem) :=
  fX3_append_3  LF o x1 (24 : Int32) M
def fX9_feed (o : Nat) (x1 : Int32) (x2 : Int32) (x3 : Int32) (x4 : Int32) (x5 : Int32) (M : Mem) : Option (Int32 × Mem) :=
  if ((M.1 (o + 1) 1) + (20 : Int32)) ≤ (800 : Int32) then
    bV (fX3_append (o + 1) x1 M) fun M1 =>
    bV (fX3_append (o + 1) x2 M1) fun M2 =>
    bV (fX3_append (o + 1) x3 M2) fun M3 =>
    bV (fX3_append (o + 1) x4 M3) fun M4 =>
    bV (fX3_append (o + 1) x5 M4) fun M5 =>
    some ((M5.1 (o + 1) 1), M5)
  else
    some ((-1 : Int32), M)
def fX9_within (l0 : Int64) (l2 : Int64) (l4 : Int64) (M : Mem) : Option (Int32 × Mem) :=
  if (lg_cmp l0 l2) < 0 then
    some ((0 : Int32), M)
  else
    if 0 < (lg_cmp l0 l4) then
      some ((0 : Int32), M)
    else
      some ((1 : Int32), M)
def fX9_end (o : Nat) (x1 : Int32) (M : Mem) : Option (Int32 × Mem) :=
  bI (fX9_within (x1).toInt64 (0 : Int64) ((M.1 (o + 1) 1)).toInt64 M) fun r2 M1 =>
  if r2 = 0 then
    some ((-1 : Int32), M1)
  else
    some (x1, (pI M1 (o + 1) 1 x1))
def fJ7_fill_53178_5  : Nat → Nat → Int32 → Int32 → Int32 → Mem → Option (Mem)
  | 0, _, _, _, _, _ => none
  | n + 1, c0, x1, x2, x3, M =>
    if x3 ≤ x2 then
      some M
    else
      ck (ib x2 (kd c0).2) <|
      fJ7_fill_53178_5  n c0 x1 (x2 + (1 : Int32)) x3 (pI M c0 (tn x2) x1)
def fJ7_fill_53178 (c0 : Nat) (x1 : Int32) (M : Mem) : Option (Mem) :=
  fJ7_fill_53178_5  LF c0 x1 (0 : Int32) (nI (kd c0).2) M
def fX7_clear (o : Nat) (M : Mem) : Option (Mem) :=
  bV (fJ7_fill_53178 (o + 1) (0 : Int32) M) fun M1 =>
  bV (fJ7_fill_53178 (o + 4) (-1 : Int32) M1) fun M2 =>
  some (pI (pI (pI (pI M2 o 5 (0 : Int32)) o 6 (0 : Int32)) o 7 (0 : Int32)) o 8 (0 : Int32))
def fX3_isLetter (x0 : Int32) (M : Mem) : Option (Int32 × Mem) :=
  if x0 < (97 : Int32) then
    some ((0 : Int32), M)
  else
    if (122 : Int32) < x0 then
      some ((0 : Int32), M)
    else
      some ((1 : Int32), M)
def fX3_isDigit (x0 : Int32) (M : Mem) : Option (Int32 × Mem) :=
  if x0 < (48 : Int32) then
    some ((0 : Int32), M)
  else
    if (57 : Int32) < x0 then
      some ((0 : Int32), M)
    else
      some ((1 : Int32), M)
def fX3_advance_259  (o : Nat) (so0 : Nat) (sx1 : Int32) (M : Mem) : Option (Mem) :=
  some (pI (pI M so0 6 sx1) o 5 (((pI M so0 6 sx1).1 o 5) + (1 : Int32)))
def fX3_advance_171  : Nat → Nat → Mem → Option (Mem)
  | 0, _, _ => none
  | n + 1, o, M =>
    if (M.1 o 1) ≤ (M.1 o 5) then
      some M
    else
      ck (ib (M.1 o 5) 800) <|
      bI (fX3_isDigit (M.1 (o + 1) (tn (M.1 o 5))) M) fun r2 M1 =>
      if r2 = 0 then
        some M1
      else
        ck (ib (M1.1 o 5) 800) <|
        fX3_advance_171  n o (pI (pI M1 o 7 (if ((((10 : Int32) * (M1.1 o 7)) + (M1.1 (o + 1) (tn (M1.1 o 5)))) - (48 : Int32)) < (100000 : Int32) then ((((10 : Int32) * (M1.1 o 7)) + (M1.1 (o + 1) (tn (M1.1 o 5)))) - (48 : Int32)) else (100000 : Int32))) o 5 (((pI M1 o 7 (if ((((10 : Int32) * (M1.1 o 7)) + (M1.1 (o + 1) (tn (M1.1 o 5)))) - (48 : Int32)) < (100000 : Int32) then ((((10 : Int32) * (M1.1 o 7)) + (M1.1 (o + 1) (tn (M1.1 o 5)))) - (48 : Int32)) else (100000 : Int32))).1 o 5) + (1 : Int32)))
def fX3_advance_107  : Nat → Nat → Mem → Option (Mem)
  | 0, _, _ => none
  | n + 1, o, M =>
    if (M.1 o 1) ≤ (M.1 o 5) then
      some M
    else
      ck (ib (M.1 o 5) 800) <|
      bI (fX3_isLetter (M.1 (o + 1) (tn (M.1 o 5))) M) fun r2 M1 =>
      if r2 = 0 then
        some M1
      else
        fX3_advance_107  n o (pI M1 o 5 ((M1.1 o 5) + (1 : Int32)))
def fX3_advance_60  (o : Nat) (M : Mem) : Option (Mem) :=
  if ((pI M o 5 (M.1 o 4)).1 o 4) = ((pI M o 5 (M.1 o 4)).1 o 1) then
    some (pI (pI M o 5 (M.1 o 4)) o 6 (0 : Int32))
  else
    ck (ib ((pI M o 5 (M.1 o 4)).1 o 4) 800) <|
    bI (fX3_isLetter ((pI M o 5 (M.1 o 4)).1 (o + 1) (tn ((pI M o 5 (M.1 o 4)).1 o 4))) (pI M o 5 (M.1 o 4))) fun r2 M1 =>
    if r2 = 0 then
      ck (ib (M1.1 o 4) 800) <|
      bI (fX3_isDigit (M1.1 (o + 1) (tn (M1.1 o 4))) M1) fun r4 M3 =>
      if r4 = 0 then
        ck (ib (M3.1 o 4) 800) <|
        if (M3.1 (o + 1) (tn (M3.1 o 4))) = (59 : Int32) then
          fX3_advance_259  o o (3 : Int32) M3
        else
          fX3_advance_259  o o (4 : Int32) M3
      else
        fX3_advance_171  LF o (pI (pI M3 o 6 (2 : Int32)) o 7 (0 : Int32))
    else
      fX3_advance_107  LF o (pI M1 o 6 (1 : Int32))
def fX3_advance_47 (k8 : Nat → Mem → Option (Mem)) (o : Nat) (M : Mem) : Option (Mem) :=
  k8 o (pI M o 4 ((M.1 o 4) + (1 : Int32)))
def fX3_advance_8  : Nat → Nat → Mem → Option (Mem)
  | 0, _, _ => none
  | n + 1, o, M =>
    if (M.1 o 1) ≤ (M.1 o 4) then
      fX3_advance_60  o M
    else
      ck (ib (M.1 o 4) 800) <|
      if (M.1 (o + 1) (tn (M.1 o 4))) = (32 : Int32) then
        fX3_advance_47 (fX3_advance_8  n) o M
      else
        ck (ib (M.1 o 4) 800) <|
        if (M.1 (o + 1) (tn (M.1 o 4))) = (10 : Int32) then
          fX3_advance_47 (fX3_advance_8  n) o M
        else
          fX3_advance_60  o M
def fX3_advance (o : Nat) (M : Mem) : Option (Mem) :=
  fX3_advance_8  LF o (pI M o 4 (M.1 o 5))
def fX3_isWord_28  : Nat → Nat → Nat → Int32 → Mem → Option (Int32 × Mem)
  | 0, _, _, _, _ => none
  | n + 1, o, j1, x2, M =>
    if (nI (sl j1)) ≤ x2 then
      some ((1 : Int32), M)
    else
      ck (ib ((M.1 o 4) + x2) 800) <|
      ck (ib x2 (sl j1)) <|
      if (M.1 (o + 1) (tn ((M.1 o 4) + x2))) = (sc j1 (tn x2)) then
        fX3_isWord_28  n o j1 (x2 + (1 : Int32)) M
      else
        some ((0 : Int32), M)
def fX3_isWord (o : Nat) (j1 : Nat) (M : Mem) : Option (Int32 × Mem) :=
  if (M.1 o 6) = (1 : Int32) then
    if ((M.1 o 5) - (M.1 o 4)) = (nI (sl j1)) then
      fX3_isWord_28  LF o j1 (0 : Int32) M
    else
      some ((0 : Int32), M)
  else
    some ((0 : Int32), M)
def fX3_fail (o : Nat) (x1 : Int32) (M : Mem) : Option (Mem) :=
  some (pI (pI M o 2 x1) o 3 ((pI M o 2 x1).1 o 4))
def fX3_takeWord (o : Nat) (j1 : Nat) (M : Mem) : Option (Mem) :=
  if (M.1 o 2) = 0 then
    bI (fX3_isWord o j1 M) fun r2 M1 =>
    if r2 = 0 then
      bV (fX3_fail o (1 : Int32) M1) fun M3 =>
      some M3
    else
      bV (fX3_advance o M1) fun M4 =>
      some M4
  else
    some M
def fX3_headWord (x0 : Int32) (M : Mem) : Option (Nat × Mem) :=
  if x0 = 0 then
    some (2, M)
  else
  if x0 = 1 then
    some (3, M)
  else
  if x0 = 2 then
    some (4, M)
  else
  if x0 = 3 then
    some (5, M)
  else
  if x0 = 4 then
    some (6, M)
  else
    some (7, M)
def fX3_takeNumber (o : Nat) (x1 : Int32) (x2 : Int32) (M : Mem) : Option (Int32 × Mem) :=
  if (M.1 o 2) = 0 then
    if (M.1 o 6) = (2 : Int32) then
      bI (fX9_within ((M.1 o 7)).toInt64 (x1).toInt64 (x2).toInt64 M) fun r2 M1 =>
      if r2 = 0 then
        bV (fX3_fail o (2 : Int32) M1) fun M4 =>
        some ((0 : Int32), M4)
      else
        bV (fX3_advance o M1) fun M3 =>
        some ((M1.1 o 7), M3)
    else
      bV (fX3_fail o (1 : Int32) M) fun M5 =>
      some ((0 : Int32), M5)
  else
    some ((0 : Int32), M)
def fX3_readHead_8  : Nat → Nat → Nat → Int32 → Mem → Option (Mem)
  | 0, _, _, _, _ => none
  | n + 1, o, o1, x2, M =>
    if (6 : Int32) ≤ x2 then
      some M
    else
      bS (fX3_headWord x2 M) fun r2 M1 =>
      bV (fX3_takeWord o r2 M1) fun M3 =>
      ck (ib x2 6) <|
      ck (ib x2 6) <|
      bI (fX3_takeNumber o (hdL.getD (tn x2) 0) (hdM.getD (tn x2) 0) M3) fun r5 M4 =>
      ck (ib x2 6) <|
      fX3_readHead_8  n o o1 (x2 + (1 : Int32)) (pI M4 (o1 + 1) (tn x2) r5)
def fX3_readHead (o : Nat) (o1 : Nat) (M : Mem) : Option (Mem) :=
  bV (fX3_takeWord o 1 M) fun M1 =>
  fX3_readHead_8  LF o o1 (0 : Int32) M1
def fX3_readSpan (o : Nat) (o1 : Nat) (M : Mem) : Option (Mem) :=
  if (M.1 o1 7) ≤ 0 then
    if (M.1 o1 6) = (5 : Int32) then
      bV (fX3_fail o (3 : Int32) M) fun M4 =>
      some M4
    else
      bV (fX3_advance o M) fun M1 =>
      ck (ib (M1.1 o1 6) 6) <|
      bI (fX3_takeNumber o ((M1.1 (o1 + 2) (tn (M1.1 o1 6))) + (1 : Int32)) (40 : Int32) M1) fun r3 M2 =>
      ck (ib ((pI M2 o1 6 ((M2.1 o1 6) + (1 : Int32))).1 o1 6) 6) <|
      some (pI (pI M2 o1 6 ((M2.1 o1 6) + (1 : Int32))) (o1 + 2) (tn ((pI M2 o1 6 ((M2.1 o1 6) + (1 : Int32))).1 o1 6)) r3)
  else
    bV (fX3_fail o (1 : Int32) M) fun M5 =>
    some M5
def fX3_opWord (x0 : Int32) (M : Mem) : Option (Nat × Mem) :=
  if x0 = 0 then
    some (8, M)
  else
  if x0 = 1 then
    some (9, M)
  else
  if x0 = 2 then
    some (10, M)
  else
  if x0 = 3 then
    some (11, M)
  else
  if x0 = 4 then
    some (12, M)
  else
  if x0 = 5 then
    some (13, M)
  else
  if x0 = 6 then
    some (14, M)
  else
  if x0 = 7 then
    some (15, M)
  else
  if x0 = 8 then
    some (16, M)
  else
  if x0 = 9 then
    some (17, M)
  else
    some (18, M)
def fX3_kindOfWord_2  : Nat → Nat → Int32 → Mem → Option (Int32 × Mem)
  | 0, _, _, _ => none
  | n + 1, o, x1, M =>
    if (10 : Int32) < x1 then
      some ((-1 : Int32), M)
    else
      bS (fX3_opWord x1 M) fun r2 M1 =>
      bI (fX3_isWord o r2 M1) fun r4 M3 =>
      if r4 = 0 then
        fX3_kindOfWord_2  n o (x1 + (1 : Int32)) M3
      else
        some (x1, M3)
def fX3_kindOfWord (o : Nat) (M : Mem) : Option (Int32 × Mem) :=
  fX3_kindOfWord_2  LF o (0 : Int32) M
def fX3_formOf (x0 : Int32) (M : Mem) : Option (Nat × Mem) :=
  if x0 = 0 then
    some (19, M)
  else
  if x0 = 1 then
    some (19, M)
  else
  if x0 = 2 then
    some (19, M)
  else
  if x0 = 3 then
    some (20, M)
  else
  if x0 = 4 then
    some (20, M)
  else
  if x0 = 5 then
    some (20, M)
  else
  if x0 = 6 then
    some (21, M)
  else
  if x0 = 7 then
    some (21, M)
  else
  if x0 = 8 then
    some (22, M)
  else
  if x0 = 9 then
    some (23, M)
  else
    some (24, M)
def fX3_mostOf (x0 : Int32) (M : Mem) : Option (Int32 × Mem) :=
  if x0 = (82 : Int32) then
    some ((7 : Int32), M)
  else
    if x0 = (78 : Int32) then
      some ((999 : Int32), M)
    else
      some ((39 : Int32), M)
def fX3_readOp_47  : Nat → Nat → Nat → Int32 → Nat → Int32 → Mem → Option (Mem)
  | 0, _, _, _, _, _, _ => none
  | n + 1, o, o1, x2, j3, x4, M =>
    if (nI (sl j3)) ≤ x4 then
      ck (ib (M.1 o1 7) 40) <|
      some (pI (pI M (o1 + 3) (tn (M.1 o1 7)) x2) o1 7 (((pI M (o1 + 3) (tn (M.1 o1 7)) x2).1 o1 7) + (1 : Int32)))
    else
      ck (ib x4 (sl j3)) <|
      bI (fX3_mostOf (sc j3 (tn x4)) M) fun r2 M1 =>
      bI (fX3_takeNumber o (0 : Int32) r2 M1) fun r4 M3 =>
      ck (ib (((3 : Int32) * (M.1 o1 7)) + x4) 120) <|
      fX3_readOp_47  n o o1 x2 j3 (x4 + (1 : Int32)) (pI M3 (o1 + 4) (tn (((3 : Int32) * (M.1 o1 7)) + x4)) r4)
def fX3_readOp (o : Nat) (o1 : Nat) (M : Mem) : Option (Mem) :=
  bI (fX3_kindOfWord o M) fun r2 M1 =>
  if r2 = (-1 : Int32) then
    bV (fX3_fail o (1 : Int32) M1) fun M7 =>
    some M7
  else
    if (M1.1 o1 7) = (40 : Int32) then
      bV (fX3_fail o (3 : Int32) M1) fun M6 =>
      some M6
    else
      bV (fX3_advance o M1) fun M3 =>
      bS (fX3_formOf r2 M3) fun r5 M4 =>
      fX3_readOp_47  LF o o1 r2 r5 (0 : Int32) M4
def fX3_readLine_57  (o : Nat) (o1 : Nat) (M : Mem) : Option (Mem) :=
  if (M.1 o 2) = 0 then
    bV (fX3_advance o (pI M o1 5 ((M.1 o1 5) + (1 : Int32)))) fun M1 =>
    some M1
  else
    some M
def fX3_readLine_37  (o : Nat) (o1 : Nat) (M : Mem) : Option (Mem) :=
  if (M.1 o 2) = 0 then
    if (M.1 o 6) = (3 : Int32) then
      fX3_readLine_57  o o1 M
    else
      bV (fX3_fail o (1 : Int32) M) fun M1 =>
      fX3_readLine_57  o o1 M1
  else
    fX3_readLine_57  o o1 M
def fX3_readLine (o : Nat) (o1 : Nat) (M : Mem) : Option (Mem) :=
  if (M.1 o1 5) = 0 then
    bV (fX3_readHead o o1 M) fun M5 =>
    fX3_readLine_37  o o1 M5
  else
    bI (fX3_isWord o 0 M) fun r2 M1 =>
    if r2 = 0 then
      bV (fX3_readOp o o1 M1) fun M3 =>
      fX3_readLine_37  o o1 M3
    else
      bV (fX3_readSpan o o1 M1) fun M4 =>
      fX3_readLine_37  o o1 M4
def fX3_readInto_57  (o : Nat) (M : Mem) : Option (Int32 × Mem) :=
  if ((pI M o 1 (0 : Int32)).1 o 2) = 0 then
    some ((1 : Int32), (pI M o 1 (0 : Int32)))
  else
    some ((0 : Int32), (pI M o 1 (0 : Int32)))
def fX3_readInto_25  : Nat → Nat → Nat → Int32 → Mem → Option (Int32 × Mem)
  | 0, _, _, _, _ => none
  | n + 1, o, o1, x2, M =>
    if (800 : Int32) ≤ x2 then
      fX3_readInto_57  o M
    else
      if (M.1 o 2) = 0 then
        if (M.1 o 6) = 0 then
          fX3_readInto_57  o M
        else
          bV (fX3_readLine o o1 M) fun M1 =>
          fX3_readInto_25  n o o1 (x2 + (1 : Int32)) M1
      else
        fX3_readInto_57  o M
def fX3_readInto (o : Nat) (o1 : Nat) (M : Mem) : Option (Int32 × Mem) :=
  bV (fX7_clear o1 M) fun M1 =>
  bV (fX3_advance o (pI (pI (pI M1 o 2 (0 : Int32)) o 3 (-1 : Int32)) o 5 (0 : Int32))) fun M2 =>
  fX3_readInto_25  LF o o1 (0 : Int32) M2
def fX7_copyFrom (o : Nat) (o1 : Nat) (M : Mem) : Option (Mem) :=
  ck (cpok (0 : Int32) (0 : Int32) (nI 6) 6 6) <|
  ck (cpok (0 : Int32) (0 : Int32) (nI 6) 6 6) <|
  ck (cpok (0 : Int32) (0 : Int32) (nI 40) 40 40) <|
  ck (cpok (0 : Int32) (0 : Int32) (nI 120) 120 120) <|
  ck (cpok (0 : Int32) (0 : Int32) (nI 40) 40 40) <|
  some (pI (pI (pI (pI (pC (pC (pC (pC (pC M (o1 + 1) (o + 1) (tn (0 : Int32)) (tn (0 : Int32)) (tn (nI 6))) (o1 + 2) (o + 2) (tn (0 : Int32)) (tn (0 : Int32)) (tn (nI 6))) (o1 + 3) (o + 3) (tn (0 : Int32)) (tn (0 : Int32)) (tn (nI 40))) (o1 + 4) (o + 4) (tn (0 : Int32)) (tn (0 : Int32)) (tn (nI 120))) (o1 + 5) (o + 5) (tn (0 : Int32)) (tn (0 : Int32)) (tn (nI 40))) o 5 ((pC (pC (pC (pC (pC M (o1 + 1) (o + 1) (tn (0 : Int32)) (tn (0 : Int32)) (tn (nI 6))) (o1 + 2) (o + 2) (tn (0 : Int32)) (tn (0 : Int32)) (tn (nI 6))) (o1 + 3) (o + 3) (tn (0 : Int32)) (tn (0 : Int32)) (tn (nI 40))) (o1 + 4) (o + 4) (tn (0 : Int32)) (tn (0 : Int32)) (tn (nI 120))) (o1 + 5) (o + 5) (tn (0 : Int32)) (tn (0 : Int32)) (tn (nI 40))).1 o1 5)) o 6 ((pI (pC (pC (pC (pC (pC M (o1 + 1) (o + 1) (tn (0 : Int32)) (tn (0 : Int32)) (tn (nI 6))) (o1 + 2) (o + 2) (tn (0 : Int32)) (tn (0 : Int32)) (tn (nI 6))) (o1 + 3) (o + 3) (tn (0 : Int32)) (tn (0 : Int32)) (tn (nI 40))) (o1 + 4) (o + 4) (tn (0 : Int32)) (tn (0 : Int32)) (tn (nI 120))) (o1 + 5) (o + 5) (tn (0 : Int32)) (tn (0 : Int32)) (tn (nI 40))) o 5 ((pC (pC (pC (pC (pC M (o1 + 1) (o + 1) (tn (0 : Int32)) (tn (0 : Int32)) (tn (nI 6))) (o1 + 2) (o + 2) (tn (0 : Int32)) (tn (0 : Int32)) (tn (nI 6))) (o1 + 3) (o + 3) (tn (0 : Int32)) (tn (0 : Int32)) (tn (nI 40))) (o1 + 4) (o + 4) (tn (0 : Int32)) (tn (0 : Int32)) (tn (nI 120))) (o1 + 5) (o + 5) (tn (0 : Int32)) (tn (0 : Int32)) (tn (nI 40))).1 o1 5)).1 o1 6)) o 7 ((pI (pI (pC (pC (pC (pC (pC M (o1 + 1) (o + 1) (tn (0 : Int32)) (tn (0 : Int32)) (tn (nI 6))) (o1 + 2) (o + 2) (tn (0 : Int32)) (tn (0 : Int32)) (tn (nI 6))) (o1 + 3) (o + 3) (tn (0 : Int32)) (tn (0 : Int32)) (tn (nI 40))) (o1 + 4) (o + 4) (tn (0 : Int32)) (tn (0 : Int32)) (tn (nI 120))) (o1 + 5) (o + 5) (tn (0 : Int32)) (tn (0 : Int32)) (tn (nI 40))) o 5 ((pC (pC (pC (pC (pC M (o1 + 1) (o + 1) (tn (0 : Int32)) (tn (0 : Int32)) (tn (nI 6))) (o1 + 2) (o + 2) (tn (0 : Int32)) (tn (0 : Int32)) (tn (nI 6))) (o1 + 3) (o + 3) (tn (0 : Int32)) (tn (0 : Int32)) (tn (nI 40))) (o1 + 4) (o + 4) (tn (0 : Int32)) (tn (0 : Int32)) (tn (nI 120))) (o1 + 5) (o + 5) (tn (0 : Int32)) (tn (0 : Int32)) (tn (nI 40))).1 o1 5)) o 6 ((pI (pC (pC (pC (pC (pC M (o1 + 1) (o + 1) (tn (0 : Int32)) (tn (0 : Int32)) (tn (nI 6))) (o1 + 2) (o + 2) (tn (0 : Int32)) (tn (0 : Int32)) (tn (nI 6))) (o1 + 3) (o + 3) (tn (0 : Int32)) (tn (0 : Int32)) (tn (nI 40))) (o1 + 4) (o + 4) (tn (0 : Int32)) (tn (0 : Int32)) (tn (nI 120))) (o1 + 5) (o + 5) (tn (0 : Int32)) (tn (0 : Int32)) (tn (nI 40))) o 5 ((pC (pC (pC (pC (pC M (o1 + 1) (o + 1) (tn (0 : Int32)) (tn (0 : Int32)) (tn (nI 6))) (o1 + 2) (o + 2) (tn (0 : Int32)) (tn (0 : Int32)) (tn (nI 6))) (o1 + 3) (o + 3) (tn (0 : Int32)) (tn (0 : Int32)) (tn (nI 40))) (o1 + 4) (o + 4) (tn (0 : Int32)) (tn (0 : Int32)) (tn (nI 120))) (o1 + 5) (o + 5) (tn (0 : Int32)) (tn (0 : Int32)) (tn (nI 40))).1 o1 5)).1 o1 6)).1 o1 7)) o 8 ((pI (pI (pI (pC (pC (pC (pC (pC M (o1 + 1) (o + 1) (tn (0 : Int32)) (tn (0 : Int32)) (tn (nI 6))) (o1 + 2) (o + 2) (tn (0 : Int32)) (tn (0 : Int32)) (tn (nI 6))) (o1 + 3) (o + 3) (tn (0 : Int32)) (tn (0 : Int32)) (tn (nI 40))) (o1 + 4) (o + 4) (tn (0 : Int32)) (tn (0 : Int32)) (tn (nI 120))) (o1 + 5) (o + 5) (tn (0 : Int32)) (tn (0 : Int32)) (tn (nI 40))) o 5 ((pC (pC (pC (pC (pC M (o1 + 1) (o + 1) (tn (0 : Int32)) (tn (0 : Int32)) (tn (nI 6))) (o1 + 2) (o + 2) (tn (0 : Int32)) (tn (0 : Int32)) (tn (nI 6))) (o1 + 3) (o + 3) (tn (0 : Int32)) (tn (0 : Int32)) (tn (nI 40))) (o1 + 4) (o + 4) (tn (0 : Int32)) (tn (0 : Int32)) (tn (nI 120))) (o1 + 5) (o + 5) (tn (0 : Int32)) (tn (0 : Int32)) (tn (nI 40))).1 o1 5)) o 6 ((pI (pC (pC (pC (pC (pC M (o1 + 1) (o + 1) (tn (0 : Int32)) (tn (0 : Int32)) (tn (nI 6))) (o1 + 2) (o + 2) (tn (0 : Int32)) (tn (0 : Int32)) (tn (nI 6))) (o1 + 3) (o + 3) (tn (0 : Int32)) (tn (0 : Int32)) (tn (nI 40))) (o1 + 4) (o + 4) (tn (0 : Int32)) (tn (0 : Int32)) (tn (nI 120))) (o1 + 5) (o + 5) (tn (0 : Int32)) (tn (0 : Int32)) (tn (nI 40))) o 5 ((pC (pC (pC (pC (pC M (o1 + 1) (o + 1) (tn (0 : Int32)) (tn (0 : Int32)) (tn (nI 6))) (o1 + 2) (o + 2) (tn (0 : Int32)) (tn (0 : Int32)) (tn (nI 6))) (o1 + 3) (o + 3) (tn (0 : Int32)) (tn (0 : Int32)) (tn (nI 40))) (o1 + 4) (o + 4) (tn (0 : Int32)) (tn (0 : Int32)) (tn (nI 120))) (o1 + 5) (o + 5) (tn (0 : Int32)) (tn (0 : Int32)) (tn (nI 40))).1 o1 5)).1 o1 6)) o 7 ((pI (pI (pC (pC (pC (pC (pC M (o1 + 1) (o + 1) (tn (0 : Int32)) (tn (0 : Int32)) (tn (nI 6))) (o1 + 2) (o + 2) (tn (0 : Int32)) (tn (0 : Int32)) (tn (nI 6))) (o1 + 3) (o + 3) (tn (0 : Int32)) (tn (0 : Int32)) (tn (nI 40))) (o1 + 4) (o + 4) (tn (0 : Int32)) (tn (0 : Int32)) (tn (nI 120))) (o1 + 5) (o + 5) (tn (0 : Int32)) (tn (0 : Int32)) (tn (nI 40))) o 5 ((pC (pC (pC (pC (pC M (o1 + 1) (o + 1) (tn (0 : Int32)) (tn (0 : Int32)) (tn (nI 6))) (o1 + 2) (o + 2) (tn (0 : Int32)) (tn (0 : Int32)) (tn (nI 6))) (o1 + 3) (o + 3) (tn (0 : Int32)) (tn (0 : Int32)) (tn (nI 40))) (o1 + 4) (o + 4) (tn (0 : Int32)) (tn (0 : Int32)) (tn (nI 120))) (o1 + 5) (o + 5) (tn (0 : Int32)) (tn (0 : Int32)) (tn (nI 40))).1 o1 5)) o 6 ((pI (pC (pC (pC (pC (pC M (o1 + 1) (o + 1) (tn (0 : Int32)) (tn (0 : Int32)) (tn (nI 6))) (o1 + 2) (o + 2) (tn (0 : Int32)) (tn (0 : Int32)) (tn (nI 6))) (o1 + 3) (o + 3) (tn (0 : Int32)) (tn (0 : Int32)) (tn (nI 40))) (o1 + 4) (o + 4) (tn (0 : Int32)) (tn (0 : Int32)) (tn (nI 120))) (o1 + 5) (o + 5) (tn (0 : Int32)) (tn (0 : Int32)) (tn (nI 40))) o 5 ((pC (pC (pC (pC (pC M (o1 + 1) (o + 1) (tn (0 : Int32)) (tn (0 : Int32)) (tn (nI 6))) (o1 + 2) (o + 2) (tn (0 : Int32)) (tn (0 : Int32)) (tn (nI 6))) (o1 + 3) (o + 3) (tn (0 : Int32)) (tn (0 : Int32)) (tn (nI 40))) (o1 + 4) (o + 4) (tn (0 : Int32)) (tn (0 : Int32)) (tn (nI 120))) (o1 + 5) (o + 5) (tn (0 : Int32)) (tn (0 : Int32)) (tn (nI 40))).1 o1 5)).1 o1 6)).1 o1 7)).1 o1 8))
def fX8_clear (o : Nat) (M : Mem) : Option (Mem) :=
  some (pI (pI M o 1 (0 : Int32)) o 2 (0 : Int32))
def fX6_setAs (o : Nat) (o1 : Nat) (M : Mem) : Option (Mem) :=
  ck (ib (0 : Int32) 6) <|
  ck (ib (1 : Int32) 6) <|
  ck (ib (2 : Int32) 6) <|
  ck (cpok (0 : Int32) (0 : Int32) (nI 6) 6 6) <|
  some (pC (pI (pI (pI (pI (pI M o 0 (M.1 (o1 + 1) (tn (0 : Int32)))) o 1 ((pI M o 0 (M.1 (o1 + 1) (tn (0 : Int32)))).1 (o1 + 1) (tn (1 : Int32)))) o 2 ((pI (pI M o 0 (M.1 (o1 + 1) (tn (0 : Int32)))) o 1 ((pI M o 0 (M.1 (o1 + 1) (tn (0 : Int32)))).1 (o1 + 1) (tn (1 : Int32)))).1 (o1 + 1) (tn (2 : Int32)))) o 3 ((pI (pI (pI M o 0 (M.1 (o1 + 1) (tn (0 : Int32)))) o 1 ((pI M o 0 (M.1 (o1 + 1) (tn (0 : Int32)))).1 (o1 + 1) (tn (1 : Int32)))) o 2 ((pI (pI M o 0 (M.1 (o1 + 1) (tn (0 : Int32)))) o 1 ((pI M o 0 (M.1 (o1 + 1) (tn (0 : Int32)))).1 (o1 + 1) (tn (1 : Int32)))).1 (o1 + 1) (tn (2 : Int32)))).1 o1 6)) o 4 (-1 : Int32)) (o1 + 2) (o + 1) (tn (0 : Int32)) (tn (0 : Int32)) (tn (nI 6)))
def fX6_clear (o : Nat) (M : Mem) : Option (Mem) :=
  bV (fJ7_fill_53178 (o + 2) (-1 : Int32) M) fun M1 =>
  bV (fJ7_fill_53178 (o + 3) (0 : Int32) M1) fun M2 =>
  bV (fJ7_fill_53178 (o + 4) (0 : Int32) M2) fun M3 =>
  bV (fJ7_fill_53178 (o + 5) (1 : Int32) M3) fun M4 =>
  some (pI (pI (pI M4 o 10 (8 : Int32)) o 11 (0 : Int32)) o 12 (0 : Int32))
def fX2_give (o : Nat) (x1 : Int32) (x2 : Int32) (x3 : Int32) (M : Mem) : Option (Mem) :=
  ck (ib x1 8) <|
  ck (ib x1 8) <|
  ck (ib x1 8) <|
  ck (ib x1 8) <|
  ck (ib x1 8) <|
  some (pI (pI (pI (pI (pI M (o + 1) (tn x1) x2) (o + 2) (tn x1) (-1 : Int32)) (o + 3) (tn x1) (0 : Int32)) (o + 4) (tn x1) (0 : Int32)) (o + 5) (tn x1) x3)
def fX2_clear_2  : Nat → Nat → Int32 → Mem → Option (Mem)
  | 0, _, _, _ => none
  | n + 1, o, x1, M =>
    if (8 : Int32) ≤ x1 then
      some M
    else
      bV (fX2_give o x1 (-1 : Int32) (0 : Int32) M) fun M1 =>
      fX2_clear_2  n o (x1 + (1 : Int32)) M1
def fX2_clear (o : Nat) (M : Mem) : Option (Mem) :=
  fX2_clear_2  LF o (0 : Int32) M
def fX0_clear (o : Nat) (M : Mem) : Option (Mem) :=
  bV (fJ7_fill_53178 (o + 1) (0 : Int32) M) fun M1 =>
  some (pI M1 o 1 (4 : Int32))
def fX1_clear (o : Nat) (M : Mem) : Option (Mem) :=
  bV (fX6_clear (o + 1) M) fun M1 =>
  bV (fX2_clear (o + 8) M1) fun M2 =>
  bV (fX0_clear (o + 14) M2) fun M3 =>
  some (pI (pL M3 o 4 (0 : Int64)) o 5 (0 : Int32))
def fX1_setAs (o : Nat) (o1 : Nat) (M : Mem) : Option (Mem) :=
  bV (fX6_setAs (o + 1) o1 M) fun M1 =>
  ck (ib (5 : Int32) 6) <|
  bV (fX1_clear o (pI M1 o 3 (M1.1 (o1 + 1) (tn (5 : Int32))))) fun M2 =>
  some M2
def fX7_hasOp (o : Nat) (x1 : Int32) (M : Mem) : Option (Int32 × Mem) :=
  bI (fX9_within (x1).toInt64 (0 : Int64) (((M.1 o 7) - (1 : Int32))).toInt64 M) fun r2 M1 =>
  ck (isB r2) <|
  some (r2, M1)
def fX7_canDo (o : Nat) (x1 : Int32) (M : Mem) : Option (Int32 × Mem) :=
  bI (fX7_hasOp o x1 M) fun r2 M1 =>
  if r2 = 0 then
    some ((0 : Int32), M1)
  else
    ck (ib x1 40) <|
    if (M1.1 (o + 3) (tn x1)) = (10 : Int32) then
      some ((0 : Int32), M1)
    else
      some ((1 : Int32), M1)
def fX7_branches_33   (M : Mem) : Option (Int32 × Mem) :=
  some ((1 : Int32), M)
def fX7_branches (o : Nat) (x1 : Int32) (M : Mem) : Option (Int32 × Mem) :=
  ck (ib x1 40) <|
  if (M.1 (o + 3) (tn x1)) = (6 : Int32) then
    fX7_branches_33   M
  else
    ck (ib x1 40) <|
    if (M.1 (o + 3) (tn x1)) = (7 : Int32) then
      fX7_branches_33   M
    else
      ck (ib x1 40) <|
      if (M.1 (o + 3) (tn x1)) = (8 : Int32) then
        fX7_branches_33   M
      else
        some ((0 : Int32), M)
def fX7_takes (o : Nat) (x1 : Int32) (c2 : Nat) (x3 : Int32) (M : Mem) : Option (Int32 × Mem) :=
  ck (ib ((3 : Int32) * x1) 120) <|
  ck (ib (x3 + (M.1 (o + 4) (tn ((3 : Int32) * x1)))) (kd c2).2) <|
  ck (ib x1 40) <|
  if (M.1 (o + 3) (tn x1)) = (8 : Int32) then
    if (irm (M.1 c2 (tn (x3 + (M.1 (o + 4) (tn ((3 : Int32) * x1)))))) (2 : Int32)) = (1 : Int32) then
      some ((1 : Int32), M)
    else
      some ((0 : Int32), M)
  else
    ck (ib (((3 : Int32) * x1) + (1 : Int32)) 120) <|
    ck (ib (x3 + (M.1 (o + 4) (tn (((3 : Int32) * x1) + (1 : Int32))))) (kd c2).2) <|
    ck (ib x1 40) <|
    if (M.1 (o + 3) (tn x1)) = (6 : Int32) then
      if (M.1 c2 (tn (x3 + (M.1 (o + 4) (tn (((3 : Int32) * x1) + (1 : Int32))))))) ≤ (M.1 c2 (tn (x3 + (M.1 (o + 4) (tn ((3 : Int32) * x1)))))) then
        some ((0 : Int32), M)
      else
        some ((1 : Int32), M)
    else
      if (M.1 c2 (tn (x3 + (M.1 (o + 4) (tn ((3 : Int32) * x1)))))) = (M.1 c2 (tn (x3 + (M.1 (o + 4) (tn (((3 : Int32) * x1) + (1 : Int32))))))) then
        some ((1 : Int32), M)
      else
        some ((0 : Int32), M)
def fX8_set (o : Nat) (x1 : Int32) (x2 : Int32) (x3 : Int32) (M : Mem) : Option (Mem) :=
  ck (ib (((9 : Int32) * x1) + x2) 2160) <|
  some (pI M (o + 1) (tn (((9 : Int32) * x1) + x2)) x3)
def fX8_add (o : Nat) (x1 : Int32) (x2 : Int32) (x3 : Int32) (M : Mem) : Option (Mem) :=
  if (M.1 o 1) < (240 : Int32) then
    bV (fX8_set o (M.1 o 1) (0 : Int32) x1 M) fun M1 =>
    bV (fX8_set o (M1.1 o 1) (1 : Int32) x2 M1) fun M2 =>
    bV (fX8_set o (M2.1 o 1) (8 : Int32) x3 M2) fun M3 =>
    some (pI M3 o 1 ((M3.1 o 1) + (1 : Int32)))
  else
    some M
def fX7_target (o : Nat) (x1 : Int32) (M : Mem) : Option (Int32 × Mem) :=
  ck (ib x1 40) <|
  if (M.1 (o + 3) (tn x1)) = (9 : Int32) then
    ck (ib ((3 : Int32) * x1) 120) <|
    some ((M.1 (o + 4) (tn ((3 : Int32) * x1))), M)
  else
    ck (ib x1 40) <|
    if (M.1 (o + 3) (tn x1)) = (8 : Int32) then
      ck (ib (((3 : Int32) * x1) + (1 : Int32)) 120) <|
      some ((M.1 (o + 4) (tn (((3 : Int32) * x1) + (1 : Int32)))), M)
    else
      ck (ib (((3 : Int32) * x1) + (2 : Int32)) 120) <|
      some ((M.1 (o + 4) (tn (((3 : Int32) * x1) + (2 : Int32)))), M)
def fX7_perform (o : Nat) (x1 : Int32) (c2 : Nat) (x3 : Int32) (M : Mem) : Option (Int32 × Mem) :=
  ck (ib x1 40) <|
  if (M.1 (o + 3) (tn x1)) = (9 : Int32) then
    bI (fX7_target o x1 M) fun r8 M7 =>
    some (r8, M7)
  else
    bI (fX7_branches o x1 M) fun r2 M1 =>
    if r2 = 0 then
      ck (ib ((3 : Int32) * x1) 120) <|
      ck (ib (((3 : Int32) * x1) + (1 : Int32)) 120) <|
      ck (ib x1 40) <|
      if (M1.1 (o + 3) (tn x1)) = 0 then
        ck (ib (x3 + (M1.1 (o + 4) (tn ((3 : Int32) * x1)))) (kd c2).2) <|
        some ((x1 + (1 : Int32)), (pI M1 c2 (tn (x3 + (M1.1 (o + 4) (tn ((3 : Int32) * x1))))) (M1.1 (o + 4) (tn (((3 : Int32) * x1) + (1 : Int32))))))
      else
      if (M1.1 (o + 3) (tn x1)) = 1 then
        ck (ib (x3 + (M1.1 (o + 4) (tn ((3 : Int32) * x1)))) (kd c2).2) <|
        ck (ib (x3 + (M1.1 (o + 4) (tn ((3 : Int32) * x1)))) (kd c2).2) <|
        some ((x1 + (1 : Int32)), (pI M1 c2 (tn (x3 + (M1.1 (o + 4) (tn ((3 : Int32) * x1))))) (irm ((M1.1 c2 (tn (x3 + (M1.1 (o + 4) (tn ((3 : Int32) * x1)))))) + (M1.1 (o + 4) (tn (((3 : Int32) * x1) + (1 : Int32))))) (1000 : Int32))))
      else
      if (M1.1 (o + 3) (tn x1)) = 2 then
        ck (ib (x3 + (M1.1 (o + 4) (tn ((3 : Int32) * x1)))) (kd c2).2) <|
        ck (ib (x3 + (M1.1 (o + 4) (tn ((3 : Int32) * x1)))) (kd c2).2) <|
        some ((x1 + (1 : Int32)), (pI M1 c2 (tn (x3 + (M1.1 (o + 4) (tn ((3 : Int32) * x1))))) (irm (((M1.1 c2 (tn (x3 + (M1.1 (o + 4) (tn ((3 : Int32) * x1)))))) - (M1.1 (o + 4) (tn (((3 : Int32) * x1) + (1 : Int32))))) + (1000 : Int32)) (1000 : Int32))))
      else
      if (M1.1 (o + 3) (tn x1)) = 3 then
        ck (ib (x3 + (M1.1 (o + 4) (tn (((3 : Int32) * x1) + (1 : Int32))))) (kd c2).2) <|
        ck (ib (x3 + (M1.1 (o + 4) (tn ((3 : Int32) * x1)))) (kd c2).2) <|
        some ((x1 + (1 : Int32)), (pI M1 c2 (tn (x3 + (M1.1 (o + 4) (tn ((3 : Int32) * x1))))) (M1.1 c2 (tn (x3 + (M1.1 (o + 4) (tn (((3 : Int32) * x1) + (1 : Int32)))))))))
      else
      if (M1.1 (o + 3) (tn x1)) = 4 then
        ck (ib (x3 + (M1.1 (o + 4) (tn ((3 : Int32) * x1)))) (kd c2).2) <|
        ck (ib (x3 + (M1.1 (o + 4) (tn (((3 : Int32) * x1) + (1 : Int32))))) (kd c2).2) <|
        ck (ib (x3 + (M1.1 (o + 4) (tn ((3 : Int32) * x1)))) (kd c2).2) <|
        some ((x1 + (1 : Int32)), (pI M1 c2 (tn (x3 + (M1.1 (o + 4) (tn ((3 : Int32) * x1))))) (irm ((M1.1 c2 (tn (x3 + (M1.1 (o + 4) (tn ((3 : Int32) * x1)))))) + (M1.1 c2 (tn (x3 + (M1.1 (o + 4) (tn (((3 : Int32) * x1) + (1 : Int32)))))))) (1000 : Int32))))
      else
      if (M1.1 (o + 3) (tn x1)) = 5 then
        ck (ib (x3 + (M1.1 (o + 4) (tn ((3 : Int32) * x1)))) (kd c2).2) <|
        ck (ib (x3 + (M1.1 (o + 4) (tn (((3 : Int32) * x1) + (1 : Int32))))) (kd c2).2) <|
        ck (ib (x3 + (M1.1 (o + 4) (tn ((3 : Int32) * x1)))) (kd c2).2) <|
        some ((x1 + (1 : Int32)), (pI M1 c2 (tn (x3 + (M1.1 (o + 4) (tn ((3 : Int32) * x1))))) (irm (((M1.1 c2 (tn (x3 + (M1.1 (o + 4) (tn ((3 : Int32) * x1)))))) - (M1.1 c2 (tn (x3 + (M1.1 (o + 4) (tn (((3 : Int32) * x1) + (1 : Int32)))))))) + (1000 : Int32)) (1000 : Int32))))
      else
        some ((x1 + (1 : Int32)), M1)
    else
      bI (fX7_takes o x1 c2 x3 M1) fun r4 M3 =>
      if r4 = 0 then
        some ((x1 + (1 : Int32)), M3)
      else
        bI (fX7_target o x1 M3) fun r6 M5 =>
        some (r6, M5)
def fX4_step_75  (o : Nat) (o1 : Nat) (x3 : Int32) (x4 : Int32) (M : Mem) : Option (Mem) :=
  bI (fX7_perform o1 x3 (o + 2) (x4 + (8 : Int32)) M) fun r2 M1 =>
  ck (ib ((M.1 o 3) + (1 : Int32)) 201) <|
  some (pI M1 (o + 1) (tn ((M.1 o 3) + (1 : Int32))) r2)
def fX4_step_68  (o : Nat) (o1 : Nat) (x3 : Int32) (x4 : Int32) (so0 : Nat) (sx1 : Int32) (sx2 : Int32) (M : Mem) : Option (Mem) :=
  bV (fX8_add so0 sx1 sx2 (M.1 o 3) M) fun M1 =>
  fX4_step_75  o o1 x3 x4 M1
def fX4_step (o : Nat) (o1 : Nat) (o2 : Nat) (M : Mem) : Option (Mem) :=
  ck (ib (M.1 o 3) 201) <|
  ck (cpok ((8 : Int32) * (M.1 o 3)) (((8 : Int32) * (M.1 o 3)) + (8 : Int32)) (8 : Int32) 1608 1608) <|
  bI (fX7_branches o1 (M.1 (o + 1) (tn (M.1 o 3))) (pC M (o + 2) (o + 2) (tn ((8 : Int32) * (M.1 o 3))) (tn (((8 : Int32) * (M.1 o 3)) + (8 : Int32))) (tn (8 : Int32)))) fun r2 M1 =>
  if r2 = 0 then
    fX4_step_75  o o1 (M.1 (o + 1) (tn (M.1 o 3))) ((8 : Int32) * (M.1 o 3)) M1
  else
    bI (fX7_takes o1 (M.1 (o + 1) (tn (M.1 o 3))) (o + 2) ((8 : Int32) * (M.1 o 3)) M1) fun r4 M3 =>
    if r4 = 0 then
      fX4_step_68  o o1 (M.1 (o + 1) (tn (M.1 o 3))) ((8 : Int32) * (M.1 o 3)) o2 (M.1 (o + 1) (tn (M.1 o 3))) (0 : Int32) M3
    else
      fX4_step_68  o o1 (M.1 (o + 1) (tn (M.1 o 3))) ((8 : Int32) * (M.1 o 3)) o2 (M.1 (o + 1) (tn (M.1 o 3))) (1 : Int32) M3
def fX4_follow_50  (o : Nat) (o1 : Nat) (o2 : Nat) (M : Mem) : Option (Mem) :=
  if ((pI M o2 2 (M.1 o2 1)).1 o 3) = (200 : Int32) then
    some (pI (pI M o2 2 (M.1 o2 1)) o 4 (3 : Int32))
  else
    ck (ib ((pI M o2 2 (M.1 o2 1)).1 o 3) 201) <|
    bI (fX7_hasOp o1 ((pI M o2 2 (M.1 o2 1)).1 (o + 1) (tn ((pI M o2 2 (M.1 o2 1)).1 o 3))) (pI M o2 2 (M.1 o2 1))) fun r2 M1 =>
    if r2 = 0 then
      some (pI M1 o 4 (2 : Int32))
    else
      some (pI M1 o 4 (1 : Int32))
def fX4_follow_5  : Nat → Nat → Nat → Nat → Mem → Option (Mem)
  | 0, _, _, _, _ => none
  | n + 1, o, o1, o2, M =>
    if (200 : Int32) ≤ (M.1 o 3) then
      fX4_follow_50  o o1 o2 M
    else
      ck (ib (M.1 o 3) 201) <|
      bI (fX7_canDo o1 (M.1 (o + 1) (tn (M.1 o 3))) M) fun r2 M1 =>
      if r2 = 0 then
        fX4_follow_50  o o1 o2 M1
      else
        bV (fX4_step o o1 o2 M1) fun M3 =>
        fX4_follow_5  n o o1 o2 (pI M3 o 3 ((M3.1 o 3) + (1 : Int32)))
def fX4_follow (o : Nat) (o1 : Nat) (o2 : Nat) (M : Mem) : Option (Mem) :=
  fX4_follow_5  LF o o1 o2 (pI M o 3 (0 : Int32))
def fX8_fact (o : Nat) (x1 : Int32) (x2 : Int32) (M : Mem) : Option (Int32 × Mem) :=
  ck (ib (((9 : Int32) * x1) + x2) 2160) <|
  some ((M.1 (o + 1) (tn (((9 : Int32) * x1) + x2))), M)
def fX1_has (o : Nat) (x1 : Int32) (M : Mem) : Option (Int32 × Mem) :=
  if ((M.1 o 3) &&& x1) = 0 then
    some ((0 : Int32), M)
  else
    some ((1 : Int32), M)
def fX9_folded_39 (k12 : Int32 → Int32 → Int64 → Int32 → Mem → Option (Int32 × Mem)) (x2 : Int32) (x3 : Int32) (l4 : Int64) (x6 : Int32) (M : Mem) : Option (Int32 × Mem) :=
  k12 x2 x3 l4 (x6 + (-1 : Int32)) M
def fX9_folded_12  : Nat → Int32 → Int32 → Int64 → Int32 → Mem → Option (Int32 × Mem)
  | 0, _, _, _, _, _ => none
  | n + 1, x2, x3, l4, x6, M =>
    if x6 < 0 then
      some (((l4 &&& (((1 : Int64) <<< ((x3).toInt64 &&& 63)) - (1 : Int64)))).toInt32, M)
    else
      if x2 ≤ (x3 <<< (x6 &&& 31)) then
        fX9_folded_39 (fX9_folded_12  n) x2 x3 l4 x6 M
      else
        fX9_folded_39 (fX9_folded_12  n) x2 x3 (l4 ^^^ ((l4).toUInt64 >>> (((x3 <<< (x6 &&& 31))).toInt64.toUInt64 &&& Int64.toUInt64 63)).toInt64) x6 M
def fX9_folded (l0 : Int64) (x2 : Int32) (x3 : Int32) (M : Mem) : Option (Int32 × Mem) :=
  fX9_folded_12  LF x2 x3 (l0 &&& (((1 : Int64) <<< ((x2).toInt64 &&& 63)) - (1 : Int64))) (5 : Int32) M
def fX9_lowest (x0 : Int32) (M : Mem) : Option (Int32 × Mem) :=
  some ((((1 : Int32) <<< (x0 &&& 31)) - (1 : Int32)), M)
def fX6_indexOf (o : Nat) (x1 : Int32) (x2 : Int32) (l3 : Int64) (M : Mem) : Option (Int32 × Mem) :=
  ck (ib x1 6) <|
  bI (fX9_folded l3 (M.1 (o + 1) (tn x1)) (M.1 o 0) M) fun r2 M1 =>
  bI (fX9_lowest (M1.1 o 0) M1) fun r4 M3 =>
  some (((((x2 ^^^ (x2 >>> ((M.1 o 0) &&& 31))) ^^^ r2) ^^^ x1) &&& r4), M3)
def fX6_tagOf (o : Nat) (x1 : Int32) (x2 : Int32) (l3 : Int64) (M : Mem) : Option (Int32 × Mem) :=
  ck (ib x1 6) <|
  bI (fX9_folded l3 (M.1 (o + 1) (tn x1)) (M.1 o 1) M) fun r2 M1 =>
  ck (ib x1 6) <|
  bI (fX9_folded l3 (M1.1 (o + 1) (tn x1)) ((M1.1 o 1) - (1 : Int32)) M1) fun r4 M3 =>
  bI (fX9_lowest (M3.1 o 1) M3) fun r6 M5 =>
  some ((((x2 ^^^ r2) ^^^ ((2 : Int32) * r4)) &&& r6), M5)
def fX6_says_44  (sx0 : Int32) (M : Mem) : Option (Int32 × Mem) :=
  if sx0 = 0 then
    some ((0 : Int32), M)
  else
    some ((1 : Int32), M)
def fX6_says (o : Nat) (x1 : Int32) (M : Mem) : Option (Int32 × Mem) :=
  if x1 = 0 then
    ck (ib (M.1 o 14) 16) <|
    if (M.1 (o + 5) (tn (M.1 o 14))) < (2 : Int32) then
      fX6_says_44  (0 : Int32) M
    else
      fX6_says_44  (1 : Int32) M
  else
    ck (ib x1 6) <|
    ck (ib (M.1 (o + 6) (tn x1)) 80) <|
    if (M.1 (o + 3) (tn (M.1 (o + 6) (tn x1)))) < 0 then
      fX6_says_44  (0 : Int32) M
    else
      fX6_says_44  (1 : Int32) M
def fX6_look_210  (so0 : Nat) (so1 : Nat) (sx2 : Int32) (M : Mem) : Option (Mem) :=
  bI (fX6_says so1 sx2 M) fun r2 M1 =>
  some (pI M1 so0 18 r2)
def fX6_look_206  (o : Nat) (so0 : Nat) (so1 : Nat) (M : Mem) : Option (Mem) :=
  fX6_look_210  so0 so1 (M.1 o 15) M
def fX6_look_173  (o : Nat) (x4 : Int32) (so0 : Nat) (sx1 : Int32) (M : Mem) : Option (Mem) :=
  ck (isB sx1) <|
  if ((pI M so0 17 sx1).1 o 17) = 0 then
    fX6_look_206  o o o (pI M so0 17 sx1)
  else
    if x4 = 0 then
      fX6_look_206  o o o (pI M so0 17 sx1)
    else
      if ((pI M so0 17 sx1).1 o 10) ≤ (7 : Int32) then
        fX6_look_206  o o o (pI M so0 17 sx1)
      else
        fX6_look_210  o o ((pI M so0 17 sx1).1 o 16) (pI M so0 17 sx1)
def fX6_look_172  (o : Nat) (x4 : Int32) (so0 : Nat) (M : Mem) : Option (Mem) :=
  fX6_look_173  o x4 so0 (0 : Int32) M
def fX6_look_112 (k21 : Nat → Int32 → Int64 → Int32 → Int32 → Mem → Option (Mem)) (o : Nat) (x1 : Int32) (l2 : Int64) (x4 : Int32) (x5 : Int32) (M : Mem) : Option (Mem) :=
  k21 o x1 l2 x4 (x5 + (1 : Int32)) M
def fX6_look_21  : Nat → Nat → Int32 → Int64 → Int32 → Int32 → Mem → Option (Mem)
  | 0, _, _, _, _, _, _ => none
  | n + 1, o, x1, l2, x4, x5, M =>
    if (M.1 o 3) < x5 then
      if (M.1 o 15) ≤ 0 then
        fX6_look_172  o x4 o M
      else
        ck (ib (M.1 o 15) 6) <|
        ck (ib (M.1 (o + 6) (tn (M.1 o 15))) 80) <|
        if (M.1 (o + 4) (tn (M.1 (o + 6) (tn (M.1 o 15))))) = 0 then
          ck (ib (M.1 o 15) 6) <|
          ck (ib (M.1 (o + 6) (tn (M.1 o 15))) 80) <|
          bI (fX9_within ((M.1 (o + 3) (tn (M.1 (o + 6) (tn (M.1 o 15)))))).toInt64 (-1 : Int64) (0 : Int64) M) fun r2 M1 =>
          if r2 = 0 then
            fX6_look_172  o x4 o M1
          else
            fX6_look_173  o x4 o (1 : Int32) M1
        else
          fX6_look_172  o x4 o M
    else
      if x5 = (M.1 o 4) then
        fX6_look_112 (fX6_look_21  n) o x1 l2 x4 x5 M
      else
        bI (fX6_indexOf o x5 x1 l2 M) fun r4 M3 =>
        ck (ib x5 6) <|
        ck (ib x5 6) <|
        ck (ib ((pI M3 (o + 6) (tn x5) (((16 : Int32) * (x5 - (1 : Int32))) + r4)).1 (o + 6) (tn x5)) 80) <|
        if ((pI M3 (o + 6) (tn x5) (((16 : Int32) * (x5 - (1 : Int32))) + r4)).1 (o + 2) (tn ((pI M3 (o + 6) (tn x5) (((16 : Int32) * (x5 - (1 : Int32))) + r4)).1 (o + 6) (tn x5)))) = (-1 : Int32) then
          fX6_look_112 (fX6_look_21  n) o x1 l2 x4 x5 (pI M3 (o + 6) (tn x5) (((16 : Int32) * (x5 - (1 : Int32))) + r4))
        else
          bI (fX6_tagOf o x5 x1 l2 (pI M3 (o + 6) (tn x5) (((16 : Int32) * (x5 - (1 : Int32))) + r4))) fun r6 M5 =>
          if ((pI M3 (o + 6) (tn x5) (((16 : Int32) * (x5 - (1 : Int32))) + r4)).1 (o + 2) (tn ((pI M3 (o + 6) (tn x5) (((16 : Int32) * (x5 - (1 : Int32))) + r4)).1 (o + 6) (tn x5)))) = r6 then
            fX6_look_112 (fX6_look_21  n) o x1 l2 x4 x5 (pI (pI M5 o 16 (M5.1 o 15)) o 15 x5)
          else
            fX6_look_112 (fX6_look_21  n) o x1 l2 x4 x5 M5
def fX6_look (o : Nat) (x1 : Int32) (l2 : Int64) (x4 : Int32) (M : Mem) : Option (Mem) :=
  fX6_look_21  LF o x1 l2 x4 (1 : Int32) (pI (pI (pI M o 14 (irm x1 (16 : Int32))) o 15 (0 : Int32)) o 16 (0 : Int32))
def fX0_weigh_82  : Nat → Nat → Int32 → Mem → Option (Mem)
  | 0, _, _, _ => none
  | n + 1, o, x5, M =>
    if (3 : Int32) ≤ x5 then
      some M
    else
      ck (ib x5 3) <|
      ck (ib (M.1 (o + 2) (tn x5)) 48) <|
      fX0_weigh_82  n o (x5 + (1 : Int32)) (pI M o 4 ((M.1 o 4) + (((2 : Int32) * (M.1 (o + 1) (tn (M.1 (o + 2) (tn x5))))) + (1 : Int32))))
def fX0_weigh_76  (o : Nat) (so0 : Nat) (sx1 : Int32) (M : Mem) : Option (Mem) :=
  fX0_weigh_82  LF o (0 : Int32) (pI M so0 4 sx1)
def fX0_weigh (o : Nat) (x1 : Int32) (l2 : Int64) (x4 : Int32) (M : Mem) : Option (Mem) :=
  ck (ib (0 : Int32) 3) <|
  ck (ib (1 : Int32) 3) <|
  bI (fX9_folded l2 (12 : Int32) (4 : Int32) (pI (pI (pI M o 3 x4) (o + 2) (tn (0 : Int32)) (((2 : Int32) * (irm x1 (8 : Int32))) + ((pI M o 3 x4).1 o 3))) (o + 2) (tn (1 : Int32)) ((16 : Int32) + ((x1 ^^^ (l2).toInt32) &&& (15 : Int32))))) fun r2 M1 =>
  ck (ib (2 : Int32) 3) <|
  if ((pI M1 (o + 2) (tn (2 : Int32)) ((32 : Int32) + ((x1 ^^^ r2) &&& (15 : Int32)))).1 o 3) = (1 : Int32) then
    fX0_weigh_76  o o (6 : Int32) (pI M1 (o + 2) (tn (2 : Int32)) ((32 : Int32) + ((x1 ^^^ r2) &&& (15 : Int32))))
  else
    fX0_weigh_76  o o (-6 : Int32) (pI M1 (o + 2) (tn (2 : Int32)) ((32 : Int32) + ((x1 ^^^ r2) &&& (15 : Int32))))
def fX2_say (o : Nat) (x1 : Int32) (M : Mem) : Option (Int32 × Mem) :=
  ck (ib (irm x1 (8 : Int32)) 8) <|
  if (M.1 (o + 1) (tn (irm x1 (8 : Int32)))) = x1 then
    ck (ib (irm x1 (8 : Int32)) 8) <|
    if (3 : Int32) ≤ (M.1 (o + 4) (tn (irm x1 (8 : Int32)))) then
      ck (ib (irm x1 (8 : Int32)) 8) <|
      ck (ib (irm x1 (8 : Int32)) 8) <|
      if (M.1 (o + 2) (tn (irm x1 (8 : Int32)))) ≤ (M.1 (o + 3) (tn (irm x1 (8 : Int32)))) then
        some ((0 : Int32), M)
      else
        some ((1 : Int32), M)
    else
      some ((-1 : Int32), M)
  else
    some ((-1 : Int32), M)
def fX0_side (o : Nat) (M : Mem) : Option (Int32 × Mem) :=
  if (M.1 o 4) ≤ 0 then
    some ((0 : Int32), M)
  else
    some ((1 : Int32), M)
def fX0_say (o : Nat) (M : Mem) : Option (Int32 × Mem) :=
  bI (fX0_side o M) fun r2 M1 =>
  if r2 = (M1.1 o 3) then
    some ((-1 : Int32), M1)
  else
    if (if 0 ≤ (M1.1 o 4) then (M1.1 o 4) else 0 - (M1.1 o 4)) < (M1.1 o 1) then
      some ((-1 : Int32), M1)
    else
      bI (fX0_side o M1) fun r4 M3 =>
      some (r4, M3)
def fX1_ask_106  (o : Nat) (M : Mem) : Option (Int32 × Mem) :=
  if (M.1 o 7) = (-1 : Int32) then
    some (((pI (pI M o 7 (M.1 (o + 1) 18)) o 8 (0 : Int32)).1 o 7), (pI (pI M o 7 (M.1 (o + 1) 18)) o 8 (0 : Int32)))
  else
    some ((M.1 o 7), M)
def fX1_ask_98  (o : Nat) (so0 : Nat) (sx1 : Int32) (M : Mem) : Option (Int32 × Mem) :=
  fX1_ask_106  o (pI (pI M so0 7 sx1) o 8 (2 : Int32))
def fX1_ask_62  (o : Nat) (so0 : Nat) (sx1 : Int32) (M : Mem) : Option (Int32 × Mem) :=
  if ((pI (pI M so0 7 sx1) o 8 (1 : Int32)).1 o 7) = (-1 : Int32) then
    bI (fX1_has o (2 : Int32) (pI (pI M so0 7 sx1) o 8 (1 : Int32))) fun r2 M1 =>
    if r2 = 0 then
      fX1_ask_98  o o (-1 : Int32) M1
    else
      bI (fX0_say (o + 14) M1) fun r4 M3 =>
      fX1_ask_98  o o r4 M3
  else
    fX1_ask_106  o (pI (pI M so0 7 sx1) o 8 (1 : Int32))
def fX1_ask (o : Nat) (x1 : Int32) (M : Mem) : Option (Int32 × Mem) :=
  bI (fX1_has o (4 : Int32) (pI M o 6 x1)) fun r2 M1 =>
  bV (fX6_look (o + 1) x1 ((pI M o 6 x1).2 o 4) r2 M1) fun M3 =>
  bV (fX0_weigh (o + 14) x1 (M3.2 o 4) (M3.1 (o + 1) 18) M3) fun M4 =>
  bI (fX1_has o (1 : Int32) M4) fun r6 M5 =>
  if r6 = 0 then
    fX1_ask_62  o o (-1 : Int32) M5
  else
    bI (fX2_say (o + 8) x1 M5) fun r8 M7 =>
    fX1_ask_62  o o r8 M7
def fX8_note_54  (o : Nat) (x1 : Int32) (o2 : Nat) (so0 : Nat) (sx1 : Int32) (sx2 : Int32) (sx3 : Int32) (M : Mem) : Option (Mem) :=
  bV (fX8_set so0 sx1 sx2 sx3 M) fun M1 =>
  bV (fX8_set o x1 (6 : Int32) (M1.1 (o2 + 1) 18) M1) fun M2 =>
  bV (fX8_set o x1 (7 : Int32) (M2.1 o2 8) M2) fun M3 =>
  some M3
def fX8_note (o : Nat) (x1 : Int32) (o2 : Nat) (M : Mem) : Option (Mem) :=
  bV (fX8_set o x1 (2 : Int32) (M.1 o2 7) M) fun M1 =>
  bV (fX8_set o x1 (3 : Int32) (M1.1 (o2 + 1) 15) M1) fun M2 =>
  bV (fX8_set o x1 (4 : Int32) (M2.1 (o2 + 1) 16) M2) fun M3 =>
  if (M3.1 (o2 + 1) 17) = 0 then
    fX8_note_54  o x1 o2 o x1 (5 : Int32) (0 : Int32) M3
  else
    fX8_note_54  o x1 o2 o x1 (5 : Int32) (1 : Int32) M3
def fX2_goOn_49  (o : Nat) (x1 : Int32) (M : Mem) : Option (Mem) :=
  ck (ib x1 8) <|
  if (M.1 (o + 3) (tn x1)) = (60 : Int32) then
    bV (fX2_give o x1 (-1 : Int32) (0 : Int32) M) fun M1 =>
    some M1
  else
    some M
def fX2_goOn (o : Nat) (x1 : Int32) (M : Mem) : Option (Mem) :=
  ck (ib x1 8) <|
  ck (ib x1 8) <|
  ck (ib x1 8) <|
  if ((pI M (o + 3) (tn x1) ((M.1 (o + 3) (tn x1)) + (1 : Int32))).1 (o + 2) (tn x1)) = (-1 : Int32) then
    fX2_goOn_49  o x1 (pI M (o + 3) (tn x1) ((M.1 (o + 3) (tn x1)) + (1 : Int32)))
  else
    ck (ib x1 8) <|
    ck (ib x1 8) <|
    if ((pI M (o + 3) (tn x1) ((M.1 (o + 3) (tn x1)) + (1 : Int32))).1 (o + 3) (tn x1)) ≤ ((pI M (o + 3) (tn x1) ((M.1 (o + 3) (tn x1)) + (1 : Int32))).1 (o + 2) (tn x1)) then
      fX2_goOn_49  o x1 (pI M (o + 3) (tn x1) ((M.1 (o + 3) (tn x1)) + (1 : Int32)))
    else
      ck (ib x1 8) <|
      ck (ib x1 8) <|
      fX2_goOn_49  o x1 (pI (pI (pI M (o + 3) (tn x1) ((M.1 (o + 3) (tn x1)) + (1 : Int32))) (o + 2) (tn x1) (-1 : Int32)) (o + 4) (tn x1) (0 : Int32))
def fX2_leave_55  (o : Nat) (x1 : Int32) (M : Mem) : Option (Mem) :=
  ck (ib x1 8) <|
  some (pI M (o + 3) (tn x1) (0 : Int32))
def fX2_leave (o : Nat) (x1 : Int32) (M : Mem) : Option (Mem) :=
  ck (ib x1 8) <|
  ck (ib x1 8) <|
  if (M.1 (o + 3) (tn x1)) = (M.1 (o + 2) (tn x1)) then
    ck (ib x1 8) <|
    ck (ib x1 8) <|
    fX2_leave_55  o x1 (pI M (o + 4) (tn x1) (if ((M.1 (o + 4) (tn x1)) + (1 : Int32)) < (3 : Int32) then ((M.1 (o + 4) (tn x1)) + (1 : Int32)) else (3 : Int32)))
  else
    ck (ib x1 8) <|
    ck (ib x1 8) <|
    ck (ib x1 8) <|
    fX2_leave_55  o x1 (pI (pI M (o + 2) (tn x1) (M.1 (o + 3) (tn x1))) (o + 4) (tn x1) (0 : Int32))
def fX2_learn (o : Nat) (x1 : Int32) (x2 : Int32) (x3 : Int32) (M : Mem) : Option (Mem) :=
  ck (ib (irm x1 (8 : Int32)) 8) <|
  if (M.1 (o + 1) (tn (irm x1 (8 : Int32)))) = x1 then
    if x2 = (1 : Int32) then
      bV (fX2_goOn o (irm x1 (8 : Int32)) M) fun M3 =>
      some M3
    else
      bV (fX2_leave o (irm x1 (8 : Int32)) M) fun M2 =>
      some M2
  else
    if x3 = 0 then
      some M
    else
      ck (ib (irm x1 (8 : Int32)) 8) <|
      if (M.1 (o + 5) (tn (irm x1 (8 : Int32)))) ≤ 0 then
        bV (fX2_give o (irm x1 (8 : Int32)) x1 (3 : Int32) M) fun M1 =>
        some M1
      else
        ck (ib (irm x1 (8 : Int32)) 8) <|
        ck (ib (irm x1 (8 : Int32)) 8) <|
        some (pI M (o + 5) (tn (irm x1 (8 : Int32))) ((M.1 (o + 5) (tn (irm x1 (8 : Int32)))) - (1 : Int32)))
def fX9_bounded (x0 : Int32) (x1 : Int32) (x2 : Int32) (M : Mem) : Option (Int32 × Mem) :=
  some ((if x1 < (if x0 < x2 then x0 else x2) then (if x0 < x2 then x0 else x2) else x1), M)
def fX0_learn_103 (k67 : Nat → Int32 → Int32 → Mem → Option (Mem)) (o : Nat) (x1 : Int32) (x3 : Int32) (sc0 : Nat) (sx1 : Int32) (sx2 : Int32) (sx3 : Int32) (M : Mem) : Option (Mem) :=
  bI (fX9_bounded (sx2 + sx3) (-8 : Int32) (7 : Int32) M) fun r2 M1 =>
  ck (ib sx1 48) <|
  k67 o x1 (x3 + (1 : Int32)) (pI M1 sc0 (tn sx1) r2)
def fX0_learn_67  : Nat → Nat → Int32 → Int32 → Mem → Option (Mem)
  | 0, _, _, _, _ => none
  | n + 1, o, x1, x3, M =>
    if (3 : Int32) ≤ x3 then
      some M
    else
      ck (ib x3 3) <|
      ck (ib x3 3) <|
      ck (ib (M.1 (o + 2) (tn x3)) 48) <|
      if x1 = (1 : Int32) then
        fX0_learn_103 (fX0_learn_67  n) o x1 x3 (o + 1) (M.1 (o + 2) (tn x3)) (M.1 (o + 1) (tn (M.1 (o + 2) (tn x3)))) (1 : Int32) M
      else
        fX0_learn_103 (fX0_learn_67  n) o x1 x3 (o + 1) (M.1 (o + 2) (tn x3)) (M.1 (o + 1) (tn (M.1 (o + 2) (tn x3)))) (-1 : Int32) M
def fX0_learn_65  (o : Nat) (x1 : Int32) (M : Mem) : Option (Mem) :=
  fX0_learn_67  LF o x1 (0 : Int32) M
def fX0_learn_49  (o : Nat) (x1 : Int32) (x2 : Int32) (M : Mem) : Option (Mem) :=
  if x2 = 0 then
    fX0_learn_65  o x1 M
  else
    if (12 : Int32) ≤ (if 0 ≤ (M.1 o 4) then (M.1 o 4) else 0 - (M.1 o 4)) then
      some M
    else
      fX0_learn_65  o x1 M
def fX0_learn_39  (o : Nat) (x1 : Int32) (x2 : Int32) (so0 : Nat) (sx1 : Int32) (sx2 : Int32) (M : Mem) : Option (Mem) :=
  bI (fX9_bounded (sx1 + sx2) (1 : Int32) (15 : Int32) M) fun r2 M1 =>
  fX0_learn_49  o x1 x2 (pI M1 so0 1 r2)
def fX0_learn_13  (o : Nat) (x1 : Int32) (sx0 : Int32) (M : Mem) : Option (Mem) :=
  bI (fX0_side o M) fun r2 M1 =>
  if r2 = (M1.1 o 3) then
    fX0_learn_49  o x1 sx0 M1
  else
    if sx0 = 0 then
      fX0_learn_39  o x1 sx0 o (M1.1 o 1) (1 : Int32) M1
    else
      fX0_learn_39  o x1 sx0 o (M1.1 o 1) (-1 : Int32) M1
def fX0_learn (o : Nat) (x1 : Int32) (M : Mem) : Option (Mem) :=
  bI (fX0_side o M) fun r2 M1 =>
  if r2 = x1 then
    fX0_learn_13  o x1 (1 : Int32) M1
  else
    fX0_learn_13  o x1 (0 : Int32) M1
def fX6_move_10  (o : Nat) (x1 : Int32) (sx0 : Int32) (M : Mem) : Option (Mem) :=
  if x1 = 0 then
    ck (ib (M.1 o 14) 16) <|
    bI (fX9_bounded ((M.1 (o + 5) (tn (M.1 o 14))) + sx0) (0 : Int32) (3 : Int32) M) fun r4 M3 =>
    ck (ib (M.1 o 14) 16) <|
    some (pI M3 (o + 5) (tn (M.1 o 14)) r4)
  else
    ck (ib x1 6) <|
    ck (ib x1 6) <|
    ck (ib (M.1 (o + 6) (tn x1)) 80) <|
    bI (fX9_bounded ((M.1 (o + 3) (tn (M.1 (o + 6) (tn x1)))) + sx0) (-4 : Int32) (3 : Int32) M) fun r2 M1 =>
    ck (ib (M.1 (o + 6) (tn x1)) 80) <|
    some (pI M1 (o + 3) (tn (M.1 (o + 6) (tn x1))) r2)
def fX6_move (o : Nat) (x1 : Int32) (x2 : Int32) (M : Mem) : Option (Mem) :=
  if x2 = (1 : Int32) then
    fX6_move_10  o x1 (1 : Int32) M
  else
    fX6_move_10  o x1 (-1 : Int32) M
def fX6_learn_123  (o : Nat) (x1 : Int32) (M : Mem) : Option (Mem) :=
  bV (fX6_move o (M.1 o 15) x1 M) fun M1 =>
  if (M1.1 o 17) = 0 then
    some M1
  else
    bV (fX6_move o (M1.1 o 16) x1 M1) fun M2 =>
    some M2
def fX6_learn_99  (o : Nat) (x1 : Int32) (sx0 : Int32) (sx1 : Int32) (M : Mem) : Option (Mem) :=
  ck (ib (M.1 o 15) 6) <|
  bI (fX9_bounded (sx0 + sx1) (0 : Int32) (3 : Int32) M) fun r2 M1 =>
  ck (ib (M.1 (o + 6) (tn (M.1 o 15))) 80) <|
  fX6_learn_123  o x1 (pI M1 (o + 4) (tn (M.1 (o + 6) (tn (M.1 o 15)))) r2)
def fX6_learn_62  (o : Nat) (x1 : Int32) (x3 : Int32) (x4 : Int32) (M : Mem) : Option (Mem) :=
  if (M.1 o 15) ≤ 0 then
    fX6_learn_123  o x1 M
  else
    if x3 = x4 then
      fX6_learn_123  o x1 M
    else
      ck (ib (M.1 o 15) 6) <|
      ck (ib (M.1 (o + 6) (tn (M.1 o 15))) 80) <|
      if x3 = x1 then
        fX6_learn_99  o x1 (M.1 (o + 4) (tn (M.1 (o + 6) (tn (M.1 o 15))))) (1 : Int32) M
      else
        fX6_learn_99  o x1 (M.1 (o + 4) (tn (M.1 (o + 6) (tn (M.1 o 15))))) (-1 : Int32) M
def fX6_learn_52  (o : Nat) (x1 : Int32) (x3 : Int32) (x4 : Int32) (so0 : Nat) (sx1 : Int32) (sx2 : Int32) (M : Mem) : Option (Mem) :=
  bI (fX9_bounded (sx1 + sx2) (0 : Int32) (15 : Int32) M) fun r2 M1 =>
  fX6_learn_62  o x1 x3 x4 (pI M1 so0 10 r2)
def fX6_learn (o : Nat) (x1 : Int32) (x2 : Int32) (M : Mem) : Option (Mem) :=
  bI (fX6_says o (M.1 o 15) M) fun r2 M1 =>
  bI (fX6_says o (M1.1 o 16) M1) fun r4 M3 =>
  if x2 = 0 then
    fX6_learn_62  o x1 r2 r4 M3
  else
    if (M3.1 o 17) = 0 then
      fX6_learn_62  o x1 r2 r4 M3
    else
      if r2 = r4 then
        fX6_learn_62  o x1 r2 r4 M3
      else
        if r4 = x1 then
          fX6_learn_52  o x1 r2 r4 o (M3.1 o 10) (1 : Int32) M3
        else
          fX6_learn_52  o x1 r2 r4 o (M3.1 o 10) (-1 : Int32) M3
def fX6_strainRows_67  : Nat → Nat → Int32 → Mem → Option (Mem)
  | 0, _, _, _ => none
  | n + 1, o, x1, M =>
    if (nI 80) ≤ x1 then
      some (pI (pI M o 11 (0 : Int32)) o 12 (((pI M o 11 (0 : Int32)).1 o 12) + (1 : Int32)))
    else
      ck (ib x1 80) <|
      ck (ib x1 80) <|
      fX6_strainRows_67  n o (x1 + (1 : Int32)) (pI M (o + 4) (tn x1) ((M.1 (o + 4) (tn x1)) / (2 : Int32)))
def fX6_strainRows_38 (k7 : Nat → Int32 → Mem → Option (Mem)) (o : Nat) (x1 : Int32) (M : Mem) : Option (Mem) :=
  k7 o (x1 + (1 : Int32)) M
def fX6_strainRows_7  : Nat → Nat → Int32 → Mem → Option (Mem)
  | 0, _, _, _ => none
  | n + 1, o, x1, M =>
    if (M.1 o 3) < x1 then
      if ((pI M o 11 ((M.1 o 11) + (1 : Int32))).1 o 11) = ((pI M o 11 ((M.1 o 11) + (1 : Int32))).1 o 2) then
        fX6_strainRows_67  LF o (0 : Int32) (pI M o 11 ((M.1 o 11) + (1 : Int32)))
      else
        some (pI M o 11 ((M.1 o 11) + (1 : Int32)))
    else
      if x1 = (M.1 o 4) then
        fX6_strainRows_38 (fX6_strainRows_7  n) o x1 M
      else
        ck (ib x1 6) <|
        ck (ib (M.1 (o + 6) (tn x1)) 80) <|
        ck (ib (M.1 (o + 6) (tn x1)) 80) <|
        fX6_strainRows_38 (fX6_strainRows_7  n) o x1 (pI M (o + 4) (tn (M.1 (o + 6) (tn x1))) ((M.1 (o + 4) (tn (M.1 (o + 6) (tn x1)))) - (1 : Int32)))
def fX6_strainRows (o : Nat) (M : Mem) : Option (Mem) :=
  fX6_strainRows_7  LF o ((M.1 o 15) + (1 : Int32)) M
def fX6_takeRow_94 (k11 : Nat → Int32 → Int64 → Int32 → Int32 → Int32 → Mem → Option (Mem)) (o : Nat) (x1 : Int32) (l2 : Int64) (x4 : Int32) (x5 : Int32) (x6 : Int32) (M : Mem) : Option (Mem) :=
  k11 o x1 l2 x4 x5 (x6 + (1 : Int32)) M
def fX6_takeRow_11  : Nat → Nat → Int32 → Int64 → Int32 → Int32 → Int32 → Mem → Option (Mem)
  | 0, _, _, _, _, _, _, _ => none
  | n + 1, o, x1, l2, x4, x5, x6, M =>
    if (M.1 o 3) < x6 then
      if x5 = 0 then
        some M
      else
        bV (fX6_strainRows o M) fun M1 =>
        some M1
    else
      if x6 = (M.1 o 4) then
        fX6_takeRow_94 (fX6_takeRow_11  n) o x1 l2 x4 x5 x6 M
      else
        ck (ib x6 6) <|
        ck (ib (M.1 (o + 6) (tn x6)) 80) <|
        if (M.1 (o + 4) (tn (M.1 (o + 6) (tn x6)))) = 0 then
          ck (ib x6 6) <|
          bI (fX6_tagOf o x6 x1 l2 M) fun r3 M2 =>
          ck (ib (M.1 (o + 6) (tn x6)) 80) <|
          ck (ib x6 6) <|
          if x4 = (1 : Int32) then
            ck (ib ((pI M2 (o + 2) (tn (M.1 (o + 6) (tn x6))) r3).1 (o + 6) (tn x6)) 80) <|
            some (pI (pI M2 (o + 2) (tn (M.1 (o + 6) (tn x6))) r3) (o + 3) (tn ((pI M2 (o + 2) (tn (M.1 (o + 6) (tn x6))) r3).1 (o + 6) (tn x6))) (0 : Int32))
          else
            ck (ib ((pI M2 (o + 2) (tn (M.1 (o + 6) (tn x6))) r3).1 (o + 6) (tn x6)) 80) <|
            some (pI (pI M2 (o + 2) (tn (M.1 (o + 6) (tn x6))) r3) (o + 3) (tn ((pI M2 (o + 2) (tn (M.1 (o + 6) (tn x6))) r3).1 (o + 6) (tn x6))) (-1 : Int32))
        else
          fX6_takeRow_94 (fX6_takeRow_11  n) o x1 l2 x4 (1 : Int32) x6 M
def fX6_takeRow (o : Nat) (x1 : Int32) (l2 : Int64) (x4 : Int32) (M : Mem) : Option (Mem) :=
  fX6_takeRow_11  LF o x1 l2 x4 (0 : Int32) ((M.1 o 15) + (1 : Int32)) M
def fX1_learn_89  (o : Nat) (x1 : Int32) (M : Mem) : Option (Mem) :=
  some (pI (pL M o 4 (((M.2 o 4) <<< (((1 : Int32)).toInt64 &&& 63)) ||| (x1).toInt64)) o 5 (((pL M o 4 (((M.2 o 4) <<< (((1 : Int32)).toInt64 &&& 63)) ||| (x1).toInt64)).1 o 5) + (1 : Int32)))
def fX1_learn_49  (o : Nat) (x1 : Int32) (M : Mem) : Option (Mem) :=
  bI (fX1_has o (4 : Int32) M) fun r2 M1 =>
  bV (fX6_learn (o + 1) x1 r2 M1) fun M3 =>
  if (M3.1 (o + 1) 18) = x1 then
    fX1_learn_89  o x1 M3
  else
    bV (fX6_takeRow (o + 1) (M3.1 o 6) (M3.2 o 4) x1 M3) fun M4 =>
    fX1_learn_89  o x1 M4
def fX1_learn_33  (o : Nat) (x1 : Int32) (M : Mem) : Option (Mem) :=
  bI (fX1_has o (2 : Int32) M) fun r2 M1 =>
  if r2 = 0 then
    fX1_learn_49  o x1 M1
  else
    bV (fX0_learn (o + 14) x1 M1) fun M3 =>
    fX1_learn_49  o x1 M3
def fX1_learn_30  (o : Nat) (x1 : Int32) (so0 : Nat) (sx1 : Int32) (sx2 : Int32) (sx3 : Int32) (M : Mem) : Option (Mem) :=
  bV (fX2_learn so0 sx1 sx2 sx3 M) fun M1 =>
  fX1_learn_33  o x1 M1
def fX1_learn (o : Nat) (x1 : Int32) (M : Mem) : Option (Mem) :=
  bI (fX1_has o (1 : Int32) M) fun r2 M1 =>
  if r2 = 0 then
    fX1_learn_33  o x1 M1
  else
    if (M1.1 o 7) = x1 then
      fX1_learn_30  o x1 (o + 8) (M1.1 o 6) x1 (0 : Int32) M1
    else
      fX1_learn_30  o x1 (o + 8) (M1.1 o 6) x1 (1 : Int32) M1
def fX9_record (o : Nat) (x1 : Int32) (M : Mem) : Option (Mem) :=
  bI (fX8_fact (o + 39) x1 (0 : Int32) M) fun r2 M1 =>
  bI (fX1_ask (o + 41) r2 M1) fun r4 M3 =>
  bV (fX8_note (o + 39) x1 (o + 41) M3) fun M5 =>
  bI (fX8_fact (o + 39) x1 (1 : Int32) M5) fun r7 M6 =>
  bV (fX1_learn (o + 41) r7 M6) fun M8 =>
  some M8
def fX9_rebuild_84  : Nat → Nat → Int32 → Mem → Option (Mem)
  | 0, _, _, _ => none
  | n + 1, o, x1, M =>
    if (M.1 (o + 39) 1) ≤ x1 then
      some M
    else
      bV (fX9_record o x1 M) fun M1 =>
      fX9_rebuild_84  n o (x1 + (1 : Int32)) M1
def fX9_rebuild_35  : Nat → Nat → Int32 → Mem → Option (Mem)
  | 0, _, _, _ => none
  | n + 1, o, x1, M =>
    if (M.1 (o + 9) 8) ≤ x1 then
      fX9_rebuild_84  LF o (0 : Int32) M
    else
      ck (ib x1 40) <|
      ck (ib x1 40) <|
      bV (fX8_add (o + 39) ((M.1 ((o + 9) + 5) (tn x1)) / (2 : Int32)) (irm (M.1 ((o + 9) + 5) (tn x1)) (2 : Int32)) (-1 : Int32) M) fun M1 =>
      fX9_rebuild_35  n o (x1 + (1 : Int32)) M1
def fX9_rebuild (o : Nat) (M : Mem) : Option (Mem) :=
  bV (fX8_clear (o + 39) M) fun M1 =>
  bV (fX1_setAs (o + 41) (o + 9) M1) fun M2 =>
  bV (fX4_follow (o + 35) (o + 9) (o + 39) M2) fun M3 =>
  fX9_rebuild_35  LF o (0 : Int32) M3
def fX9_program (o : Nat) (M : Mem) : Option (Int32 × Mem) :=
  bI (fX3_readInto (o + 1) (o + 3) M) fun r2 M1 =>
  if r2 = 0 then
    some ((-4 : Int32), M1)
  else
    bV (fX7_copyFrom (o + 9) (o + 3) M1) fun M3 =>
    bV (fX9_rebuild o M3) fun M4 =>
    some ((M4.1 (o + 9) 5), M4)
def fX9_fault (o : Nat) (x1 : Int32) (M : Mem) : Option (Int32 × Mem) :=
  if x1 = 0 then
    some ((M.1 (o + 1) 2), M)
  else
    if x1 = (1 : Int32) then
      some ((M.1 (o + 1) 3), M)
    else
      some ((-1 : Int32), M)
def fX9_op (o : Nat) (x1 : Int32) (x2 : Int32) (M : Mem) : Option (Int32 × Mem) :=
  bI (fX7_hasOp (o + 9) x1 M) fun r2 M1 =>
  if r2 = 0 then
    some ((-2 : Int32), M1)
  else
    bI (fX9_within (x2).toInt64 (0 : Int64) (3 : Int64) M1) fun r4 M3 =>
    if r4 = 0 then
      some ((-2 : Int32), M3)
    else
      if x2 = 0 then
        ck (ib x1 40) <|
        some ((M3.1 ((o + 9) + 3) (tn x1)), M3)
      else
        ck (ib ((((3 : Int32) * x1) + x2) - (1 : Int32)) 120) <|
        some ((M3.1 ((o + 9) + 4) (tn ((((3 : Int32) * x1) + x2) - (1 : Int32)))), M3)
def fX9_isTold (o : Nat) (M : Mem) : Option (Int32 × Mem) :=
  if (M.1 (o + 9) 5) ≤ 0 then
    some ((0 : Int32), M)
  else
    some ((1 : Int32), M)
def fX9_steps (o : Nat) (M : Mem) : Option (Int32 × Mem) :=
  bI (fX9_isTold o M) fun r2 M1 =>
  if r2 = 0 then
    some ((-2 : Int32), M1)
  else
    some ((M1.1 (o + 35) 3), M1)
def fX9_why (o : Nat) (M : Mem) : Option (Int32 × Mem) :=
  bI (fX9_isTold o M) fun r2 M1 =>
  if r2 = 0 then
    some ((-2 : Int32), M1)
  else
    some ((M1.1 (o + 35) 4), M1)
def fX9_isStep (o : Nat) (x1 : Int32) (M : Mem) : Option (Int32 × Mem) :=
  bI (fX9_isTold o M) fun r2 M1 =>
  if r2 = 0 then
    some ((0 : Int32), M1)
  else
    bI (fX9_within (x1).toInt64 (0 : Int64) ((M1.1 (o + 35) 3)).toInt64 M1) fun r4 M3 =>
    if r4 = 0 then
      some ((0 : Int32), M3)
    else
      some ((1 : Int32), M3)
def fX9_next (o : Nat) (x1 : Int32) (M : Mem) : Option (Int32 × Mem) :=
  bI (fX9_isStep o x1 M) fun r2 M1 =>
  if r2 = 0 then
    some ((-2 : Int32), M1)
  else
    ck (ib x1 201) <|
    some ((M1.1 ((o + 35) + 1) (tn x1)), M1)
def fX9_isRegister (x0 : Int32) (M : Mem) : Option (Int32 × Mem) :=
  bI (fX9_within (x0).toInt64 (0 : Int64) (7 : Int64) M) fun r2 M1 =>
  ck (isB r2) <|
  some (r2, M1)
def fX9_register (o : Nat) (x1 : Int32) (x2 : Int32) (M : Mem) : Option (Int32 × Mem) :=
  bI (fX9_isStep o x2 M) fun r2 M1 =>
  if r2 = 0 then
    some ((-2 : Int32), M1)
  else
    bI (fX9_isRegister x1 M1) fun r4 M3 =>
    if r4 = 0 then
      some ((-2 : Int32), M3)
    else
      ck (ib (((8 : Int32) * x2) + x1) 1608) <|
      some ((M3.1 ((o + 35) + 2) (tn (((8 : Int32) * x2) + x1))), M3)
def fX9_isBranch (o : Nat) (x1 : Int32) (M : Mem) : Option (Int32 × Mem) :=
  bI (fX9_within (x1).toInt64 (0 : Int64) (((M.1 (o + 39) 1) - (1 : Int32))).toInt64 M) fun r2 M1 =>
  ck (isB r2) <|
  some (r2, M1)
def fX9_branch (o : Nat) (x1 : Int32) (x2 : Int32) (M : Mem) : Option (Int32 × Mem) :=
  bI (fX9_isBranch o x1 M) fun r2 M1 =>
  if r2 = 0 then
    some ((-2 : Int32), M1)
  else
    bI (fX9_within (x2).toInt64 (0 : Int64) (8 : Int64) M1) fun r4 M3 =>
    if r4 = 0 then
      some ((-2 : Int32), M3)
    else
      bI (fX8_fact (o + 39) x1 x2 M3) fun r6 M5 =>
      some (r6, M5)
def fX9_isMoment (o : Nat) (x1 : Int32) (M : Mem) : Option (Int32 × Mem) :=
  bI (fX9_isTold o M) fun r2 M1 =>
  if r2 = 0 then
    some ((0 : Int32), M1)
  else
    bI (fX9_within (x1).toInt64 (0 : Int64) ((M1.1 (o + 39) 1)).toInt64 M1) fun r4 M3 =>
    if r4 = 0 then
      some ((0 : Int32), M3)
    else
      some ((1 : Int32), M3)
def fX8_isWrong (o : Nat) (x1 : Int32) (M : Mem) : Option (Int32 × Mem) :=
  bI (fX8_fact o x1 (2 : Int32) M) fun r2 M1 =>
  bI (fX8_fact o x1 (1 : Int32) M1) fun r4 M3 =>
  if r2 = r4 then
    some ((0 : Int32), M3)
  else
    some ((1 : Int32), M3)
def fX9_wrong_34 (k15 : Nat → Int32 → Int32 → Int32 → Mem → Option (Int32 × Mem)) (o : Nat) (x1 : Int32) (x2 : Int32) (x3 : Int32) (M : Mem) : Option (Int32 × Mem) :=
  k15 o x1 x2 (x3 + (1 : Int32)) M
def fX9_wrong_15  : Nat → Nat → Int32 → Int32 → Int32 → Mem → Option (Int32 × Mem)
  | 0, _, _, _, _, _ => none
  | n + 1, o, x1, x2, x3, M =>
    if x1 ≤ x3 then
      some (x2, M)
    else
      bI (fX8_isWrong (o + 39) x3 M) fun r2 M1 =>
      if r2 = 0 then
        fX9_wrong_34 (fX9_wrong_15  n) o x1 x2 x3 M1
      else
        fX9_wrong_34 (fX9_wrong_15  n) o x1 (x2 + (1 : Int32)) x3 M1
def fX9_wrong (o : Nat) (x1 : Int32) (M : Mem) : Option (Int32 × Mem) :=
  bI (fX9_isMoment o x1 M) fun r2 M1 =>
  if r2 = 0 then
    some ((-2 : Int32), M1)
  else
    fX9_wrong_15  LF o x1 (0 : Int32) (0 : Int32) M1
def fX9_isAddress (x0 : Int32) (M : Mem) : Option (Int32 × Mem) :=
  bI (fX9_within (x0).toInt64 (0 : Int64) (63 : Int64) M) fun r2 M1 =>
  ck (isB r2) <|
  some (r2, M1)
def fX8_wrongsAt_33 (k4 : Nat → Int32 → Int32 → Int32 → Mem → Option (Int32 × Mem)) (o : Nat) (x1 : Int32) (x2 : Int32) (x3 : Int32) (M : Mem) : Option (Int32 × Mem) :=
  k4 o x1 x2 (x3 + (1 : Int32)) M
def fX8_wrongsAt_4  : Nat → Nat → Int32 → Int32 → Int32 → Mem → Option (Int32 × Mem)
  | 0, _, _, _, _, _ => none
  | n + 1, o, x1, x2, x3, M =>
    if (M.1 o 1) ≤ x3 then
      some (x2, M)
    else
      bI (fX8_isWrong o x3 M) fun r2 M1 =>
      if r2 = 0 then
        fX8_wrongsAt_33 (fX8_wrongsAt_4  n) o x1 x2 x3 M1
      else
        bI (fX8_fact o x3 (0 : Int32) M1) fun r4 M3 =>
        if r4 = x1 then
          fX8_wrongsAt_33 (fX8_wrongsAt_4  n) o x1 (x2 + (1 : Int32)) x3 M3
        else
          fX8_wrongsAt_33 (fX8_wrongsAt_4  n) o x1 x2 x3 M3
def fX8_wrongsAt (o : Nat) (x1 : Int32) (M : Mem) : Option (Int32 × Mem) :=
  fX8_wrongsAt_4  LF o x1 (0 : Int32) (0 : Int32) M
def fX9_wrongs (o : Nat) (x1 : Int32) (M : Mem) : Option (Int32 × Mem) :=
  bI (fX9_isTold o M) fun r2 M1 =>
  if r2 = 0 then
    some ((-2 : Int32), M1)
  else
    bI (fX9_isAddress x1 M1) fun r4 M3 =>
    if r4 = 0 then
      some ((-2 : Int32), M3)
    else
      bI (fX8_wrongsAt (o + 39) x1 M3) fun r6 M5 =>
      some (r6, M5)
def fX9_worst_43 (k16 : Nat → Int32 → Int32 → Int32 → Mem → Option (Int32 × Mem)) (o : Nat) (x1 : Int32) (x2 : Int32) (x3 : Int32) (M : Mem) : Option (Int32 × Mem) :=
  k16 o x1 x2 (x3 + (1 : Int32)) M
def fX9_worst_16  : Nat → Nat → Int32 → Int32 → Int32 → Mem → Option (Int32 × Mem)
  | 0, _, _, _, _, _ => none
  | n + 1, o, x1, x2, x3, M =>
    if (63 : Int32) < x3 then
      some (x1, M)
    else
      bI (fX8_wrongsAt (o + 39) x3 M) fun r2 M1 =>
      if r2 ≤ x2 then
        fX9_worst_43 (fX9_worst_16  n) o x1 x2 x3 M1
      else
        fX9_worst_43 (fX9_worst_16  n) o x3 r2 x3 M1
def fX9_worst (o : Nat) (M : Mem) : Option (Int32 × Mem) :=
  bI (fX9_isTold o M) fun r2 M1 =>
  if r2 = 0 then
    some ((-2 : Int32), M1)
  else
    fX9_worst_16  LF o (-1 : Int32) (0 : Int32) (0 : Int32) M1
def fX9_streak_45 (k16 : Nat → Int32 → Int32 → Int32 → Mem → Option (Int32 × Mem)) (o : Nat) (x1 : Int32) (x3 : Int32) (sx0 : Int32) (M : Mem) : Option (Int32 × Mem) :=
  k16 o (if x1 < sx0 then sx0 else x1) sx0 (x3 + (1 : Int32)) M
def fX9_streak_16  : Nat → Nat → Int32 → Int32 → Int32 → Mem → Option (Int32 × Mem)
  | 0, _, _, _, _, _ => none
  | n + 1, o, x1, x2, x3, M =>
    if (M.1 (o + 39) 1) ≤ x3 then
      some (x1, M)
    else
      bI (fX8_isWrong (o + 39) x3 M) fun r2 M1 =>
      if r2 = 0 then
        fX9_streak_45 (fX9_streak_16  n) o x1 x3 (x2 + (1 : Int32)) M1
      else
        fX9_streak_45 (fX9_streak_16  n) o x1 x3 (0 : Int32) M1
def fX9_streak (o : Nat) (M : Mem) : Option (Int32 × Mem) :=
  bI (fX9_isTold o M) fun r2 M1 =>
  if r2 = 0 then
    some ((-2 : Int32), M1)
  else
    fX9_streak_16  LF o (0 : Int32) (0 : Int32) (0 : Int32) M1
def fX9_isWho (x0 : Int32) (M : Mem) : Option (Int32 × Mem) :=
  bI (fX9_within (x0).toInt64 (0 : Int64) (2 : Int64) M) fun r2 M1 =>
  ck (isB r2) <|
  some (r2, M1)
def fX8_countOf_28 (k5 : Nat → Int32 → Int32 → Int32 → Int32 → Mem → Option (Int32 × Mem)) (o : Nat) (x1 : Int32) (x2 : Int32) (x3 : Int32) (x4 : Int32) (M : Mem) : Option (Int32 × Mem) :=
  k5 o x1 x2 x3 (x4 + (1 : Int32)) M
def fX8_countOf_5  : Nat → Nat → Int32 → Int32 → Int32 → Int32 → Mem → Option (Int32 × Mem)
  | 0, _, _, _, _, _, _ => none
  | n + 1, o, x1, x2, x3, x4, M =>
    if (M.1 o 1) ≤ x4 then
      some (x3, M)
    else
      bI (fX8_fact o x4 x1 M) fun r2 M1 =>
      if r2 = x2 then
        fX8_countOf_28 (fX8_countOf_5  n) o x1 x2 (x3 + (1 : Int32)) x4 M1
      else
        fX8_countOf_28 (fX8_countOf_5  n) o x1 x2 x3 x4 M1
def fX8_countOf (o : Nat) (x1 : Int32) (x2 : Int32) (M : Mem) : Option (Int32 × Mem) :=
  fX8_countOf_5  LF o x1 x2 (0 : Int32) (0 : Int32) M
def fX9_said (o : Nat) (x1 : Int32) (M : Mem) : Option (Int32 × Mem) :=
  bI (fX9_isTold o M) fun r2 M1 =>
  if r2 = 0 then
    some ((-2 : Int32), M1)
  else
    bI (fX9_isWho x1 M1) fun r4 M3 =>
    if r4 = 0 then
      some ((-2 : Int32), M3)
    else
      bI (fX8_countOf (o + 39) (7 : Int32) x1 M3) fun r6 M5 =>
      some (r6, M5)
def fX9_gained_88 (k22 : Nat → Int32 → Int32 → Int32 → Mem → Option (Int32 × Mem)) (o : Nat) (x1 : Int32) (x2 : Int32) (x3 : Int32) (M : Mem) : Option (Int32 × Mem) :=
  k22 o x1 x2 (x3 + (1 : Int32)) M
def fX9_gained_86 (k22 : Nat → Int32 → Int32 → Int32 → Mem → Option (Int32 × Mem)) (o : Nat) (x1 : Int32) (x3 : Int32) (sx0 : Int32) (sx1 : Int32) (M : Mem) : Option (Int32 × Mem) :=
  fX9_gained_88 (k22) o x1 (sx0 + sx1) x3 M
def fX9_gained_22  : Nat → Nat → Int32 → Int32 → Int32 → Mem → Option (Int32 × Mem)
  | 0, _, _, _, _, _ => none
  | n + 1, o, x1, x2, x3, M =>
    if (M.1 (o + 39) 1) ≤ x3 then
      some (x2, M)
    else
      bI (fX8_fact (o + 39) x3 (7 : Int32) M) fun r2 M1 =>
      if r2 = x1 then
        bI (fX8_fact (o + 39) x3 (2 : Int32) M1) fun r4 M3 =>
        bI (fX8_fact (o + 39) x3 (6 : Int32) M3) fun r6 M5 =>
        if r4 = r6 then
          fX9_gained_88 (fX9_gained_22  n) o x1 x2 x3 M5
        else
          bI (fX8_isWrong (o + 39) x3 M5) fun r8 M7 =>
          if r8 = 0 then
            fX9_gained_86 (fX9_gained_22  n) o x1 x3 x2 (1 : Int32) M7
          else
            fX9_gained_86 (fX9_gained_22  n) o x1 x3 x2 (-1 : Int32) M7
      else
        fX9_gained_88 (fX9_gained_22  n) o x1 x2 x3 M1
def fX9_gained (o : Nat) (x1 : Int32) (M : Mem) : Option (Int32 × Mem) :=
  bI (fX9_isTold o M) fun r2 M1 =>
  if r2 = 0 then
    some ((-1000 : Int32), M1)
  else
    bI (fX9_isWho x1 M1) fun r4 M3 =>
    if r4 = 0 then
      some ((-1000 : Int32), M3)
    else
      fX9_gained_22  LF o x1 (0 : Int32) (0 : Int32) M3
def fX9_provided (o : Nat) (x1 : Int32) (M : Mem) : Option (Int32 × Mem) :=
  bI (fX9_isTold o M) fun r2 M1 =>
  if r2 = 0 then
    some ((-2 : Int32), M1)
  else
    bI (fX9_within (x1).toInt64 (0 : Int64) ((M1.1 (o + 9) 6)).toInt64 M1) fun r4 M3 =>
    if r4 = 0 then
      some ((-2 : Int32), M3)
    else
      bI (fX8_countOf (o + 39) (3 : Int32) x1 M3) fun r6 M5 =>
      some (r6, M5)
def fX9_goTo_26  : Nat → Nat → Int32 → Int32 → Mem → Option (Mem)
  | 0, _, _, _, _ => none
  | n + 1, o, x1, x2, M =>
    if x1 ≤ x2 then
      some M
    else
      bI (fX8_fact (o + 39) x2 (0 : Int32) M) fun r2 M1 =>
      bI (fX1_ask (o + 41) r2 M1) fun r4 M3 =>
      bI (fX8_fact (o + 39) x2 (1 : Int32) M3) fun r6 M5 =>
      bV (fX1_learn (o + 41) r6 M5) fun M7 =>
      fX9_goTo_26  n o x1 (x2 + (1 : Int32)) M7
def fX9_goTo_18  (o : Nat) (x1 : Int32) (M : Mem) : Option (Mem) :=
  fX9_goTo_26  LF o x1 (M.1 (o + 41) 5) M
def fX9_goTo (o : Nat) (x1 : Int32) (M : Mem) : Option (Mem) :=
  if (M.1 (o + 41) 5) ≤ x1 then
    fX9_goTo_18  o x1 M
  else
    bV (fX1_clear (o + 41) M) fun M1 =>
    fX9_goTo_18  o x1 M1
def fX9_history (o : Nat) (x1 : Int32) (x2 : Int32) (M : Mem) : Option (Int32 × Mem) :=
  bI (fX9_isMoment o x1 M) fun r2 M1 =>
  if r2 = 0 then
    some ((-2 : Int32), M1)
  else
    bI (fX9_within (x2).toInt64 (0 : Int64) (30 : Int64) M1) fun r4 M3 =>
    if r4 = 0 then
      some ((-2 : Int32), M3)
    else
      bV (fX9_goTo o x1 M3) fun M5 =>
      bI (fX9_lowest x2 M5) fun r7 M6 =>
      some ((((M5.2 (o + 41) 4)).toInt32 &&& r7), M6)
def fX9_fold (o : Nat) (x1 : Int32) (x2 : Int32) (x3 : Int32) (M : Mem) : Option (Int32 × Mem) :=
  bI (fX9_isMoment o x1 M) fun r2 M1 =>
  if r2 = 0 then
    some ((-2 : Int32), M1)
  else
    bI (fX9_within (x2).toInt64 (1 : Int64) (40 : Int64) M1) fun r4 M3 =>
    if r4 = 0 then
      some ((-2 : Int32), M3)
    else
      bI (fX9_within (x3).toInt64 (1 : Int64) (10 : Int64) M3) fun r6 M5 =>
      if r6 = 0 then
        some ((-2 : Int32), M5)
      else
        bV (fX9_goTo o x1 M5) fun M7 =>
        bI (fX9_folded (M7.2 (o + 41) 4) x2 x3 M7) fun r9 M8 =>
        some (r9, M8)
def fX9_isTable (o : Nat) (x1 : Int32) (M : Mem) : Option (Int32 × Mem) :=
  bI (fX9_within (x1).toInt64 (1 : Int64) ((M.1 (o + 9) 6)).toInt64 M) fun r2 M1 =>
  ck (isB r2) <|
  some (r2, M1)
def fX9_index (o : Nat) (x1 : Int32) (x2 : Int32) (x3 : Int32) (M : Mem) : Option (Int32 × Mem) :=
  bI (fX9_isMoment o x3 M) fun r2 M1 =>
  if r2 = 0 then
    some ((-2 : Int32), M1)
  else
    bI (fX9_isTable o x1 M1) fun r4 M3 =>
    if r4 = 0 then
      some ((-2 : Int32), M3)
    else
      bI (fX9_isAddress x2 M3) fun r6 M5 =>
      if r6 = 0 then
        some ((-2 : Int32), M5)
      else
        bV (fX9_goTo o x3 M5) fun M7 =>
        bI (fX6_indexOf ((o + 41) + 1) x1 x2 (M7.2 (o + 41) 4) M7) fun r9 M8 =>
        some (r9, M8)
def fX9_tag (o : Nat) (x1 : Int32) (x2 : Int32) (x3 : Int32) (M : Mem) : Option (Int32 × Mem) :=
  bI (fX9_isMoment o x3 M) fun r2 M1 =>
  if r2 = 0 then
    some ((-2 : Int32), M1)
  else
    bI (fX9_isTable o x1 M1) fun r4 M3 =>
    if r4 = 0 then
      some ((-2 : Int32), M3)
    else
      bI (fX9_isAddress x2 M3) fun r6 M5 =>
      if r6 = 0 then
        some ((-2 : Int32), M5)
      else
        bV (fX9_goTo o x3 M5) fun M7 =>
        bI (fX6_tagOf ((o + 41) + 1) x1 x2 (M7.2 (o + 41) 4) M7) fun r9 M8 =>
        some (r9, M8)
def fX9_askedAt (o : Nat) (x1 : Int32) (x2 : Int32) (M : Mem) : Option (Int32 × Mem) :=
  bI (fX9_isMoment o x2 M) fun r2 M1 =>
  if r2 = 0 then
    some ((0 : Int32), M1)
  else
    bI (fX9_isAddress x1 M1) fun r4 M3 =>
    if r4 = 0 then
      some ((0 : Int32), M3)
    else
      bV (fX9_goTo o x2 M3) fun M5 =>
      bI (fX1_ask (o + 41) x1 M5) fun r7 M6 =>
      some ((1 : Int32), M6)
def fX9_provider (o : Nat) (x1 : Int32) (x2 : Int32) (M : Mem) : Option (Int32 × Mem) :=
  bI (fX9_askedAt o x1 x2 M) fun r2 M1 =>
  if r2 = 0 then
    some ((-2 : Int32), M1)
  else
    some ((M1.1 ((o + 41) + 1) 15), M1)
def fX9_alternate (o : Nat) (x1 : Int32) (x2 : Int32) (M : Mem) : Option (Int32 × Mem) :=
  bI (fX9_askedAt o x1 x2 M) fun r2 M1 =>
  if r2 = 0 then
    some ((-2 : Int32), M1)
  else
    some ((M1.1 ((o + 41) + 1) 16), M1)
def fX9_guess (o : Nat) (x1 : Int32) (x2 : Int32) (M : Mem) : Option (Int32 × Mem) :=
  bI (fX9_askedAt o x1 x2 M) fun r2 M1 =>
  if r2 = 0 then
    some ((-2 : Int32), M1)
  else
    some ((M1.1 (o + 41) 7), M1)
def fX9_adds (o : Nat) (x1 : Int32) (x2 : Int32) (M : Mem) : Option (Int32 × Mem) :=
  bI (fX9_askedAt o x1 x2 M) fun r2 M1 =>
  if r2 = 0 then
    some ((-1000 : Int32), M1)
  else
    some ((M1.1 ((o + 41) + 14) 4), M1)
def fX9_entry (o : Nat) (x1 : Int32) (x2 : Int32) (x3 : Int32) (x4 : Int32) (M : Mem) : Option (Int32 × Mem) :=
  bI (fX9_isMoment o x4 M) fun r2 M1 =>
  if r2 = 0 then
    some ((-1000 : Int32), M1)
  else
    bI (fX9_isTable o x1 M1) fun r4 M3 =>
    if r4 = 0 then
      some ((-1000 : Int32), M3)
    else
      ck (ib (0 : Int32) 6) <|
      bI (fX9_lowest (M3.1 ((o + 9) + 1) (tn (0 : Int32))) M3) fun r6 M5 =>
      bI (fX9_within (x2).toInt64 (0 : Int64) (r6).toInt64 M5) fun r8 M7 =>
      if r8 = 0 then
        some ((-1000 : Int32), M7)
      else
        bI (fX9_within (x3).toInt64 (0 : Int64) (2 : Int64) M7) fun r10 M9 =>
        if r10 = 0 then
          some ((-1000 : Int32), M9)
        else
          bV (fX9_goTo o x4 M9) fun M11 =>
          if x3 = 0 then
            ck (ib (((16 : Int32) * (x1 - (1 : Int32))) + x2) 80) <|
            some ((M11.1 (((o + 41) + 1) + 2) (tn (((16 : Int32) * (x1 - (1 : Int32))) + x2))), M11)
          else
            if x3 = (1 : Int32) then
              ck (ib (((16 : Int32) * (x1 - (1 : Int32))) + x2) 80) <|
              some ((M11.1 (((o + 41) + 1) + 3) (tn (((16 : Int32) * (x1 - (1 : Int32))) + x2))), M11)
            else
              ck (ib (((16 : Int32) * (x1 - (1 : Int32))) + x2) 80) <|
              some ((M11.1 (((o + 41) + 1) + 4) (tn (((16 : Int32) * (x1 - (1 : Int32))) + x2))), M11)
def fX6_heldWithin_25 (k5 : Nat → Int32 → Int32 → Int32 → Mem → Option (Int32 × Mem)) (o : Nat) (x2 : Int32) (x3 : Int32) (x4 : Int32) (M : Mem) : Option (Int32 × Mem) :=
  k5 o x2 x3 (x4 + (1 : Int32)) M
def fX6_heldWithin_5  : Nat → Nat → Int32 → Int32 → Int32 → Mem → Option (Int32 × Mem)
  | 0, _, _, _, _, _ => none
  | n + 1, o, x2, x3, x4, M =>
    if x2 ≤ x4 then
      some (x3, M)
    else
      ck (ib x4 80) <|
      if (M.1 (o + 2) (tn x4)) = (-1 : Int32) then
        fX6_heldWithin_25 (fX6_heldWithin_5  n) o x2 x3 x4 M
      else
        fX6_heldWithin_25 (fX6_heldWithin_5  n) o x2 (x3 + (1 : Int32)) x4 M
def fX6_heldWithin (o : Nat) (x1 : Int32) (x2 : Int32) (M : Mem) : Option (Int32 × Mem) :=
  fX6_heldWithin_5  LF o x2 (0 : Int32) x1 M
def fX9_held (o : Nat) (x1 : Int32) (x2 : Int32) (M : Mem) : Option (Int32 × Mem) :=
  bI (fX9_isMoment o x2 M) fun r2 M1 =>
  if r2 = 0 then
    some ((-2 : Int32), M1)
  else
    bI (fX9_within (x1).toInt64 (0 : Int64) ((M1.1 (o + 9) 6)).toInt64 M1) fun r4 M3 =>
    if r4 = 0 then
      some ((-2 : Int32), M3)
    else
      bV (fX9_goTo o x2 M3) fun M5 =>
      if x1 = 0 then
        bI (fX6_heldWithin ((o + 41) + 1) (0 : Int32) (80 : Int32) M5) fun r9 M8 =>
        some (r9, M8)
      else
        bI (fX6_heldWithin ((o + 41) + 1) ((16 : Int32) * (x1 - (1 : Int32))) ((16 : Int32) * x1) M5) fun r7 M6 =>
        some (r7, M6)
def fX9_base (o : Nat) (x1 : Int32) (x2 : Int32) (M : Mem) : Option (Int32 × Mem) :=
  bI (fX9_isMoment o x2 M) fun r2 M1 =>
  if r2 = 0 then
    some ((-2 : Int32), M1)
  else
    bI (fX9_within (x1).toInt64 (0 : Int64) (15 : Int64) M1) fun r4 M3 =>
    if r4 = 0 then
      some ((-2 : Int32), M3)
    else
      bV (fX9_goTo o x2 M3) fun M5 =>
      ck (ib x1 16) <|
      some ((M5.1 (((o + 41) + 1) + 5) (tn x1)), M5)
def fX9_gauge (o : Nat) (x1 : Int32) (x2 : Int32) (M : Mem) : Option (Int32 × Mem) :=
  bI (fX9_isMoment o x2 M) fun r2 M1 =>
  if r2 = 0 then
    some ((-2 : Int32), M1)
  else
    bI (fX9_within (x1).toInt64 (0 : Int64) (3 : Int64) M1) fun r4 M3 =>
    if r4 = 0 then
      some ((-2 : Int32), M3)
    else
      bV (fX9_goTo o x2 M3) fun M5 =>
      if x1 = 0 then
        some ((M5.1 ((o + 41) + 1) 10), M5)
      else
        if x1 = (1 : Int32) then
          some ((M5.1 ((o + 41) + 1) 11), M5)
        else
          if x1 = (2 : Int32) then
            some ((M5.1 ((o + 41) + 14) 1), M5)
          else
            some ((M5.1 ((o + 41) + 1) 12), M5)
def fX9_loop (o : Nat) (x1 : Int32) (x2 : Int32) (x3 : Int32) (M : Mem) : Option (Int32 × Mem) :=
  bI (fX9_isMoment o x3 M) fun r2 M1 =>
  if r2 = 0 then
    some ((-2 : Int32), M1)
  else
    bI (fX9_within (x1).toInt64 (0 : Int64) (7 : Int64) M1) fun r4 M3 =>
    if r4 = 0 then
      some ((-2 : Int32), M3)
    else
      bI (fX9_within (x2).toInt64 (0 : Int64) (4 : Int64) M3) fun r6 M5 =>
      if r6 = 0 then
        some ((-2 : Int32), M5)
      else
        bV (fX9_goTo o x3 M5) fun M7 =>
        if x2 = 0 then
          ck (ib x1 8) <|
          some ((M7.1 (((o + 41) + 8) + 1) (tn x1)), M7)
        else
          if x2 = (1 : Int32) then
            ck (ib x1 8) <|
            some ((M7.1 (((o + 41) + 8) + 2) (tn x1)), M7)
          else
            if x2 = (2 : Int32) then
              ck (ib x1 8) <|
              some ((M7.1 (((o + 41) + 8) + 3) (tn x1)), M7)
            else
              if x2 = (3 : Int32) then
                ck (ib x1 8) <|
                some ((M7.1 (((o + 41) + 8) + 4) (tn x1)), M7)
              else
                ck (ib x1 8) <|
                some ((M7.1 (((o + 41) + 8) + 5) (tn x1)), M7)
def fX9_corrector (o : Nat) (x1 : Int32) (x2 : Int32) (x3 : Int32) (M : Mem) : Option (Int32 × Mem) :=
  bI (fX9_isMoment o x3 M) fun r2 M1 =>
  if r2 = 0 then
    some ((-1000 : Int32), M1)
  else
    bI (fX9_within (x1).toInt64 (0 : Int64) (2 : Int64) M1) fun r4 M3 =>
    if r4 = 0 then
      some ((-1000 : Int32), M3)
    else
      bI (fX9_within (x2).toInt64 (0 : Int64) (15 : Int64) M3) fun r6 M5 =>
      if r6 = 0 then
        some ((-1000 : Int32), M5)
      else
        bV (fX9_goTo o x3 M5) fun M7 =>
        ck (ib (((16 : Int32) * x1) + x2) 48) <|
        some ((M7.1 (((o + 41) + 14) + 1) (tn (((16 : Int32) * x1) + x2))), M7)
def fX9_clash_137 (k36 : Nat → Int32 → Int32 → Int32 → Int32 → Mem → Option (Int32 × Mem)) (o : Nat) (x1 : Int32) (x2 : Int32) (x4 : Int32) (x5 : Int32) (M : Mem) : Option (Int32 × Mem) :=
  k36 o x1 x2 x4 (x5 + (1 : Int32)) M
def fX9_clash_36  : Nat → Nat → Int32 → Int32 → Int32 → Int32 → Mem → Option (Int32 × Mem)
  | 0, _, _, _, _, _, _ => none
  | n + 1, o, x1, x2, x4, x5, M =>
    if (M.1 (o + 9) 6) < x5 then
      some (x4, M)
    else
      bI (fX6_indexOf ((o + 41) + 1) x5 x1 (M.2 (o + 41) 4) M) fun r2 M1 =>
      bI (fX6_indexOf ((o + 41) + 1) x5 x2 (M1.2 (o + 41) 4) M1) fun r4 M3 =>
      if r2 = r4 then
        bI (fX6_tagOf ((o + 41) + 1) x5 x1 (M3.2 (o + 41) 4) M3) fun r6 M5 =>
        bI (fX6_tagOf ((o + 41) + 1) x5 x2 (M5.2 (o + 41) 4) M5) fun r8 M7 =>
        if r6 = r8 then
          fX9_clash_137 (fX9_clash_36  n) o x1 x2 (x4 + (1 : Int32)) x5 M7
        else
          fX9_clash_137 (fX9_clash_36  n) o x1 x2 x4 x5 M7
      else
        fX9_clash_137 (fX9_clash_36  n) o x1 x2 x4 x5 M3
def fX9_clash (o : Nat) (x1 : Int32) (x2 : Int32) (x3 : Int32) (M : Mem) : Option (Int32 × Mem) :=
  bI (fX9_isMoment o x3 M) fun r2 M1 =>
  if r2 = 0 then
    some ((-2 : Int32), M1)
  else
    bI (fX9_isAddress x1 M1) fun r4 M3 =>
    if r4 = 0 then
      some ((-2 : Int32), M3)
    else
      bI (fX9_isAddress x2 M3) fun r6 M5 =>
      if r6 = 0 then
        some ((-2 : Int32), M5)
      else
        bV (fX9_goTo o x3 M5) fun M7 =>
        fX9_clash_36  LF o x1 x2 (0 : Int32) (1 : Int32) M7
def fX4_wander_49  : Nat → Nat → Nat → Int32 → Int32 → Mem → Option (Int32 × Mem)
  | 0, _, _, _, _, _ => none
  | n + 1, o, o1, x4, x5, M =>
    ck (ib (4 : Int32) 6) <|
    if (M.1 (o1 + 1) (tn (4 : Int32))) ≤ x5 then
      some (x5, M)
    else
      bI (fX7_canDo o1 x4 M) fun r2 M1 =>
      if r2 = 0 then
        some (x5, M1)
      else
        bI (fX7_branches o1 x4 M1) fun r4 M3 =>
        if r4 = 0 then
          bI (fX7_perform o1 x4 (o + 3) (0 : Int32) M3) fun r6 M5 =>
          fX4_wander_49  n o o1 r6 (x5 + (1 : Int32)) M5
        else
          some (x5, M3)
def fX4_wander_44  (o : Nat) (o1 : Nat) (sx0 : Int32) (M : Mem) : Option (Int32 × Mem) :=
  fX4_wander_49  LF o o1 sx0 (0 : Int32) M
def fX4_wander (o : Nat) (o1 : Nat) (x2 : Int32) (x3 : Int32) (M : Mem) : Option (Int32 × Mem) :=
  ck (cpok ((8 : Int32) * x2) (0 : Int32) (8 : Int32) 1608 8) <|
  if x3 = (1 : Int32) then
    ck (ib x2 201) <|
    fX4_wander_44  o o1 (((pC M (o + 2) (o + 3) (tn ((8 : Int32) * x2)) (tn (0 : Int32)) (tn (8 : Int32))).1 (o + 1) (tn x2)) + (1 : Int32)) (pC M (o + 2) (o + 3) (tn ((8 : Int32) * x2)) (tn (0 : Int32)) (tn (8 : Int32)))
  else
    ck (ib x2 201) <|
    bI (fX7_target o1 ((pC M (o + 2) (o + 3) (tn ((8 : Int32) * x2)) (tn (0 : Int32)) (tn (8 : Int32))).1 (o + 1) (tn x2)) (pC M (o + 2) (o + 3) (tn ((8 : Int32) * x2)) (tn (0 : Int32)) (tn (8 : Int32)))) fun r2 M1 =>
    fX4_wander_44  o o1 r2 M1
def fX9_wander (o : Nat) (x1 : Int32) (M : Mem) : Option (Int32 × Mem) :=
  bI (fX8_fact (o + 39) x1 (8 : Int32) M) fun r2 M1 =>
  bI (fX8_fact (o + 39) x1 (1 : Int32) M1) fun r4 M3 =>
  bI (fX4_wander (o + 35) (o + 9) r2 r4 M3) fun r6 M5 =>
  some (r6, M5)
def fX9_strays (o : Nat) (x1 : Int32) (M : Mem) : Option (Int32 × Mem) :=
  bI (fX9_within (x1).toInt64 (0 : Int64) (((M.1 (o + 39) 2) - (1 : Int32))).toInt64 M) fun r2 M1 =>
  if r2 = 0 then
    some ((-2 : Int32), M1)
  else
    bI (fX8_isWrong (o + 39) x1 M1) fun r4 M3 =>
    if r4 = 0 then
      some ((0 : Int32), M3)
    else
      bI (fX9_wander o x1 M3) fun r6 M5 =>
      some (r6, M5)
def fX9_stray (o : Nat) (x1 : Int32) (x2 : Int32) (M : Mem) : Option (Int32 × Mem) :=
  bI (fX9_within (x1).toInt64 (0 : Int64) (((M.1 (o + 39) 2) - (1 : Int32))).toInt64 M) fun r2 M1 =>
  if r2 = 0 then
    some ((-2 : Int32), M1)
  else
    bI (fX9_isRegister x2 M1) fun r4 M3 =>
    if r4 = 0 then
      some ((-2 : Int32), M3)
    else
      bI (fX8_isWrong (o + 39) x1 M3) fun r6 M5 =>
      if r6 = 0 then
        some ((-1 : Int32), M5)
      else
        bI (fX9_wander o x1 M5) fun r8 M7 =>
        ck (ib x2 8) <|
        some ((M7.1 ((o + 35) + 3) (tn x2)), M7)
def fX9_setRivalBy (o : Nat) (x1 : Int32) (M : Mem) : Option (Mem) :=
  bV (fX1_setAs (o + 58) (o + 9) M) fun M1 =>
  some (pI M1 (o + 58) 3 x1)
def fX9_costBy_72 (k15 : Nat → Int32 → Int32 → Mem → Option (Int32 × Mem)) (o : Nat) (x2 : Int32) (x3 : Int32) (M : Mem) : Option (Int32 × Mem) :=
  bI (fX8_fact (o + 39) x3 (1 : Int32) M) fun r2 M1 =>
  bV (fX1_learn (o + 58) r2 M1) fun M3 =>
  k15 o x2 (x3 + (1 : Int32)) M3
def fX9_costBy_15  : Nat → Nat → Int32 → Int32 → Mem → Option (Int32 × Mem)
  | 0, _, _, _, _ => none
  | n + 1, o, x2, x3, M =>
    if (M.1 (o + 39) 2) ≤ x3 then
      some (x2, M)
    else
      bI (fX8_fact (o + 39) x3 (0 : Int32) M) fun r2 M1 =>
      bI (fX1_ask (o + 58) r2 M1) fun r4 M3 =>
      bI (fX8_fact (o + 39) x3 (1 : Int32) M3) fun r6 M5 =>
      if r4 = r6 then
        fX9_costBy_72 (fX9_costBy_15  n) o x2 x3 M5
      else
        ck (ib (3 : Int32) 6) <|
        bI (fX9_wander o x3 M5) fun r8 M7 =>
        fX9_costBy_72 (fX9_costBy_15  n) o (x2 + ((M5.1 ((o + 9) + 1) (tn (3 : Int32))) + r8)) x3 M7
def fX9_costBy (o : Nat) (x1 : Int32) (M : Mem) : Option (Int32 × Mem) :=
  bV (fX9_setRivalBy o x1 M) fun M1 =>
  fX9_costBy_15  LF o (M1.1 (o + 35) 3) (0 : Int32) M1
def fX9_cycles (o : Nat) (M : Mem) : Option (Int32 × Mem) :=
  bI (fX9_isTold o M) fun r2 M1 =>
  if r2 = 0 then
    some ((-2 : Int32), M1)
  else
    ck (ib (5 : Int32) 6) <|
    bI (fX9_costBy o (M1.1 ((o + 9) + 1) (tn (5 : Int32))) M1) fun r4 M3 =>
    some (r4, M3)
def fX9_cheapest_18  : Nat → Nat → Int32 → Int32 → Mem → Option (Int32 × Mem)
  | 0, _, _, _, _ => none
  | n + 1, o, x1, x2, M =>
    if (8 : Int32) ≤ x2 then
      some (x1, M)
    else
      bI (fX9_costBy o x2 M) fun r2 M1 =>
      fX9_cheapest_18  n o (if r2 < x1 then r2 else x1) (x2 + (1 : Int32)) M1
def fX9_cheapest (o : Nat) (M : Mem) : Option (Int32 × Mem) :=
  bI (fX9_isTold o M) fun r2 M1 =>
  if r2 = 0 then
    some ((-2 : Int32), M1)
  else
    bI (fX9_costBy o (0 : Int32) M1) fun r4 M3 =>
    fX9_cheapest_18  LF o r4 (1 : Int32) M3
def fX9_rivalWrongs_46 (k4 : Nat → Int32 → Int32 → Mem → Option (Int32 × Mem)) (o : Nat) (x1 : Int32) (x2 : Int32) (M : Mem) : Option (Int32 × Mem) :=
  bI (fX8_fact (o + 39) x2 (1 : Int32) M) fun r2 M1 =>
  bV (fX1_learn (o + 58) r2 M1) fun M3 =>
  k4 o x1 (x2 + (1 : Int32)) M3
def fX9_rivalWrongs_4  : Nat → Nat → Int32 → Int32 → Mem → Option (Int32 × Mem)
  | 0, _, _, _, _ => none
  | n + 1, o, x1, x2, M =>
    if (M.1 (o + 39) 1) ≤ x2 then
      some (x1, M)
    else
      bI (fX8_fact (o + 39) x2 (0 : Int32) M) fun r2 M1 =>
      bI (fX1_ask (o + 58) r2 M1) fun r4 M3 =>
      bI (fX8_fact (o + 39) x2 (1 : Int32) M3) fun r6 M5 =>
      if r4 = r6 then
        fX9_rivalWrongs_46 (fX9_rivalWrongs_4  n) o x1 x2 M5
      else
        fX9_rivalWrongs_46 (fX9_rivalWrongs_4  n) o (x1 + (1 : Int32)) x2 M5
def fX9_rivalWrongs (o : Nat) (M : Mem) : Option (Int32 × Mem) :=
  fX9_rivalWrongs_4  LF o (0 : Int32) (0 : Int32) M
def fX9_by (o : Nat) (x1 : Int32) (M : Mem) : Option (Int32 × Mem) :=
  bI (fX9_isTold o M) fun r2 M1 =>
  if r2 = 0 then
    some ((-2 : Int32), M1)
  else
    bI (fX9_within (x1).toInt64 (0 : Int64) (7 : Int64) M1) fun r4 M3 =>
    if r4 = 0 then
      some ((-2 : Int32), M3)
    else
      bV (fX9_setRivalBy o x1 M3) fun M5 =>
      bI (fX9_rivalWrongs o M5) fun r7 M6 =>
      some (r7, M6)
def fX9_ideal_46 (k18 : Nat → Int32 → Int32 → Int32 → Mem → Option (Int32 × Mem)) (o : Nat) (x1 : Int32) (x2 : Int32) (x3 : Int32) (M : Mem) : Option (Int32 × Mem) :=
  k18 o x1 x2 (x3 + (1 : Int32)) M
def fX9_ideal_18  : Nat → Nat → Int32 → Int32 → Int32 → Mem → Option (Int32 × Mem)
  | 0, _, _, _, _, _ => none
  | n + 1, o, x1, x2, x3, M =>
    if (8 : Int32) ≤ x3 then
      some (x1, M)
    else
      bV (fX9_setRivalBy o x3 M) fun M1 =>
      bI (fX9_rivalWrongs o M1) fun r3 M2 =>
      if x2 ≤ r3 then
        fX9_ideal_46 (fX9_ideal_18  n) o x1 x2 x3 M2
      else
        fX9_ideal_46 (fX9_ideal_18  n) o x3 r3 x3 M2
def fX9_ideal (o : Nat) (M : Mem) : Option (Int32 × Mem) :=
  bI (fX9_isTold o M) fun r2 M1 =>
  if r2 = 0 then
    some ((-2 : Int32), M1)
  else
    fX9_ideal_18  LF o (-1 : Int32) (241 : Int32) (0 : Int32) M1
def fX9_setRivalWithout (o : Nat) (x1 : Int32) (M : Mem) : Option (Mem) :=
  bV (fX1_setAs (o + 58) (o + 9) M) fun M1 =>
  some (pI M1 ((o + 58) + 1) 4 x1)
def fX9_without (o : Nat) (x1 : Int32) (M : Mem) : Option (Int32 × Mem) :=
  bI (fX9_isTable o x1 M) fun r2 M1 =>
  if r2 = 0 then
    some ((-2 : Int32), M1)
  else
    bV (fX9_setRivalWithout o x1 M1) fun M3 =>
    bI (fX9_rivalWrongs o M3) fun r5 M4 =>
    some (r5, M4)
def fX9_spare_51 (k18 : Nat → Int32 → Int32 → Int32 → Mem → Option (Int32 × Mem)) (o : Nat) (x1 : Int32) (x2 : Int32) (x3 : Int32) (M : Mem) : Option (Int32 × Mem) :=
  k18 o x1 x2 (x3 + (1 : Int32)) M
def fX9_spare_18  : Nat → Nat → Int32 → Int32 → Int32 → Mem → Option (Int32 × Mem)
  | 0, _, _, _, _, _ => none
  | n + 1, o, x1, x2, x3, M =>
    if (M.1 (o + 9) 6) < x3 then
      some (x1, M)
    else
      bV (fX9_setRivalWithout o x3 M) fun M1 =>
      bI (fX9_rivalWrongs o M1) fun r3 M2 =>
      if x2 ≤ r3 then
        fX9_spare_51 (fX9_spare_18  n) o x1 x2 x3 M2
      else
        fX9_spare_51 (fX9_spare_18  n) o x3 r3 x3 M2
def fX9_spare (o : Nat) (M : Mem) : Option (Int32 × Mem) :=
  bI (fX9_isTold o M) fun r2 M1 =>
  if r2 = 0 then
    some ((-2 : Int32), M1)
  else
    fX9_spare_18  LF o (-1 : Int32) (241 : Int32) (1 : Int32) M1
def fX9_leastSpan (o : Nat) (x1 : Int32) (M : Mem) : Option (Int32 × Mem) :=
  ck (ib (x1 - (1 : Int32)) 6) <|
  some (((M.1 ((o + 9) + 2) (tn (x1 - (1 : Int32)))) + (1 : Int32)), M)
def fX9_mostSpan (o : Nat) (x1 : Int32) (M : Mem) : Option (Int32 × Mem) :=
  if (M.1 (o + 9) 6) ≤ x1 then
    some ((40 : Int32), M)
  else
    ck (ib (x1 + (1 : Int32)) 6) <|
    some (((M.1 ((o + 9) + 2) (tn (x1 + (1 : Int32)))) - (1 : Int32)), M)
def fX9_setRivalSpanned (o : Nat) (x1 : Int32) (x2 : Int32) (M : Mem) : Option (Mem) :=
  bV (fX1_setAs (o + 58) (o + 9) M) fun M1 =>
  ck (ib x1 6) <|
  some (pI M1 (((o + 58) + 1) + 1) (tn x1) x2)
def fX9_spanned (o : Nat) (x1 : Int32) (x2 : Int32) (M : Mem) : Option (Int32 × Mem) :=
  bI (fX9_isTable o x1 M) fun r2 M1 =>
  if r2 = 0 then
    some ((-2 : Int32), M1)
  else
    bI (fX9_leastSpan o x1 M1) fun r4 M3 =>
    bI (fX9_mostSpan o x1 M3) fun r6 M5 =>
    bI (fX9_within (x2).toInt64 (r4).toInt64 (r6).toInt64 M5) fun r8 M7 =>
    if r8 = 0 then
      some ((-2 : Int32), M7)
    else
      bV (fX9_setRivalSpanned o x1 x2 M7) fun M9 =>
      bI (fX9_rivalWrongs o M9) fun r11 M10 =>
      some (r11, M10)
def fX9_span_59 (k24 : Nat → Int32 → Int32 → Int32 → Int32 → Mem → Option (Int32 × Mem)) (o : Nat) (x1 : Int32) (x2 : Int32) (x3 : Int32) (x4 : Int32) (M : Mem) : Option (Int32 × Mem) :=
  k24 o x1 x2 x3 (x4 + (1 : Int32)) M
def fX9_span_24  : Nat → Nat → Int32 → Int32 → Int32 → Int32 → Mem → Option (Int32 × Mem)
  | 0, _, _, _, _, _, _ => none
  | n + 1, o, x1, x2, x3, x4, M =>
    bI (fX9_mostSpan o x1 M) fun r2 M1 =>
    if r2 < x4 then
      some (x2, M1)
    else
      bV (fX9_setRivalSpanned o x1 x4 M1) fun M3 =>
      bI (fX9_rivalWrongs o M3) fun r5 M4 =>
      if x3 ≤ r5 then
        fX9_span_59 (fX9_span_24  n) o x1 x2 x3 x4 M4
      else
        fX9_span_59 (fX9_span_24  n) o x1 x4 r5 x4 M4
def fX9_span (o : Nat) (x1 : Int32) (M : Mem) : Option (Int32 × Mem) :=
  bI (fX9_isTable o x1 M) fun r2 M1 =>
  if r2 = 0 then
    some ((-2 : Int32), M1)
  else
    bI (fX9_leastSpan o x1 M1) fun r4 M3 =>
    fX9_span_24  LF o x1 (-1 : Int32) (241 : Int32) r4 M3
def fX9_isPattern (o : Nat) (x1 : Int32) (x2 : Int32) (x3 : Int32) (M : Mem) : Option (Int32 × Mem) :=
  bI (fX9_isTold o M) fun r2 M1 =>
  if r2 = 0 then
    some ((0 : Int32), M1)
  else
    bI (fX9_isAddress x1 M1) fun r4 M3 =>
    if r4 = 0 then
      some ((0 : Int32), M3)
    else
      bI (fX9_within (x3).toInt64 (1 : Int64) (16 : Int64) M3) fun r6 M5 =>
      if r6 = 0 then
        some ((0 : Int32), M5)
      else
        bI (fX9_lowest x3 M5) fun r8 M7 =>
        bI (fX9_within (x2).toInt64 (0 : Int64) (r8).toInt64 M7) fun r10 M9 =>
        if r10 = 0 then
          some ((0 : Int32), M9)
        else
          some ((1 : Int32), M9)
def fX9_playRounds_70 (k32 : Nat → Int32 → Int32 → Int32 → Int32 → Int32 → Int32 → Mem → Option (Mem)) (o : Nat) (x1 : Int32) (x2 : Int32) (x3 : Int32) (x4 : Int32) (x5 : Int32) (x6 : Int32) (x7 : Int32) (M : Mem) : Option (Mem) :=
  bV (fX1_learn (o + 58) x7 M) fun M1 =>
  k32 o x1 x2 x3 x4 x5 (x6 + (1 : Int32)) M1
def fX9_playRounds_32 (k14 : Nat → Int32 → Int32 → Int32 → Int32 → Int32 → Mem → Option (Mem)) : Nat → Nat → Int32 → Int32 → Int32 → Int32 → Int32 → Int32 → Mem → Option (Mem)
  | 0, _, _, _, _, _, _, _, _ => none
  | n + 1, o, x1, x2, x3, x4, x5, x6, M =>
    if x3 ≤ x6 then
      k14 o x1 x2 x3 x4 (x5 + (1 : Int32)) M
    else
      bI (fX1_ask (o + 58) x1 M) fun r2 M1 =>
      if r2 = ((x2 >>> (x6 &&& 31)) &&& (1 : Int32)) then
        fX9_playRounds_70 (fX9_playRounds_32 k14 n) o x1 x2 x3 x4 x5 x6 ((x2 >>> (x6 &&& 31)) &&& (1 : Int32)) M1
      else
        ck (ib x5 30) <|
        ck (ib x5 30) <|
        fX9_playRounds_70 (fX9_playRounds_32 k14 n) o x1 x2 x3 x4 x5 x6 ((x2 >>> (x6 &&& 31)) &&& (1 : Int32)) (pI M1 (o + 75) (tn x5) ((M1.1 (o + 75) (tn x5)) + (1 : Int32)))
def fX9_playRounds_14  : Nat → Nat → Int32 → Int32 → Int32 → Int32 → Int32 → Mem → Option (Mem)
  | 0, _, _, _, _, _, _, _ => none
  | n + 1, o, x1, x2, x3, x4, x5, M =>
    if x4 ≤ x5 then
      some M
    else
      ck (ib x5 30) <|
      fX9_playRounds_32 (fX9_playRounds_14  n) LF o x1 x2 x3 x4 x5 (0 : Int32) (pI M (o + 75) (tn x5) (0 : Int32))
def fX9_playRounds (o : Nat) (x1 : Int32) (x2 : Int32) (x3 : Int32) (x4 : Int32) (M : Mem) : Option (Mem) :=
  bV (fX1_setAs (o + 58) (o + 9) M) fun M1 =>
  fX9_playRounds_14  LF o x1 x2 x3 x4 (0 : Int32) M1
def fX9_round (o : Nat) (x1 : Int32) (x2 : Int32) (x3 : Int32) (x4 : Int32) (M : Mem) : Option (Int32 × Mem) :=
  bI (fX9_isPattern o x1 x2 x3 M) fun r2 M1 =>
  if r2 = 0 then
    some ((-2 : Int32), M1)
  else
    bI (fX9_within (x4).toInt64 (0 : Int64) (29 : Int64) M1) fun r4 M3 =>
    if r4 = 0 then
      some ((-2 : Int32), M3)
    else
      bV (fX9_playRounds o x1 x2 x3 (x4 + (1 : Int32)) M3) fun M5 =>
      ck (ib x4 30) <|
      some ((M5.1 (o + 75) (tn x4)), M5)
def fX9_firstRightRound_15  : Nat → Nat → Int32 → Mem → Option (Int32 × Mem)
  | 0, _, _, _ => none
  | n + 1, o, x1, M =>
    if x1 ≤ 0 then
      some (x1, M)
    else
      ck (ib (x1 - (1 : Int32)) 30) <|
      if (M.1 (o + 75) (tn (x1 - (1 : Int32)))) = 0 then
        fX9_firstRightRound_15  n o (x1 + (-1 : Int32)) M
      else
        some (x1, M)
def fX9_firstRightRound (o : Nat) (M : Mem) : Option (Int32 × Mem) :=
  ck (ib (29 : Int32) 30) <|
  if (M.1 (o + 75) (tn (29 : Int32))) ≤ 0 then
    fX9_firstRightRound_15  LF o (29 : Int32) M
  else
    some ((-1 : Int32), M)
def fX9_learnt (o : Nat) (x1 : Int32) (x2 : Int32) (x3 : Int32) (M : Mem) : Option (Int32 × Mem) :=
  bI (fX9_isPattern o x1 x2 x3 M) fun r2 M1 =>
  if r2 = 0 then
    some ((-2 : Int32), M1)
  else
    bV (fX9_playRounds o x1 x2 x3 (30 : Int32) M1) fun M3 =>
    bI (fX9_firstRightRound o M3) fun r5 M4 =>
    some (r5, M4)
def fX9_learns_66 (k34 : Nat → Int32 → Int32 → Int32 → Int32 → Mem → Option (Int32 × Mem)) (o : Nat) (x1 : Int32) (x2 : Int32) (x3 : Int32) (x4 : Int32) (M : Mem) : Option (Int32 × Mem) :=
  k34 o x1 x2 x3 (x4 + (1 : Int32)) M
def fX9_learns_34  : Nat → Nat → Int32 → Int32 → Int32 → Int32 → Mem → Option (Int32 × Mem)
  | 0, _, _, _, _, _, _ => none
  | n + 1, o, x1, x2, x3, x4, M =>
    bI (fX9_lowest x2 M) fun r2 M1 =>
    if r2 < x4 then
      some (x3, M1)
    else
      bV (fX9_playRounds o x1 x4 x2 (30 : Int32) M1) fun M3 =>
      ck (ib (29 : Int32) 30) <|
      if (M3.1 (o + 75) (tn (29 : Int32))) = 0 then
        fX9_learns_66 (fX9_learns_34  n) o x1 x2 (x3 + (1 : Int32)) x4 M3
      else
        fX9_learns_66 (fX9_learns_34  n) o x1 x2 x3 x4 M3
def fX9_learns (o : Nat) (x1 : Int32) (x2 : Int32) (M : Mem) : Option (Int32 × Mem) :=
  bI (fX9_isTold o M) fun r2 M1 =>
  if r2 = 0 then
    some ((-2 : Int32), M1)
  else
    bI (fX9_isAddress x1 M1) fun r4 M3 =>
    if r4 = 0 then
      some ((-2 : Int32), M3)
    else
      bI (fX9_within (x2).toInt64 (1 : Int64) (5 : Int64) M3) fun r6 M5 =>
      if r6 = 0 then
        some ((-2 : Int32), M5)
      else
        fX9_learns_34  LF o x1 x2 (0 : Int32) (0 : Int32) M5
def fX9_isSlot (x0 : Int32) (M : Mem) : Option (Int32 × Mem) :=
  bI (fX9_within (x0).toInt64 (0 : Int64) (3 : Int64) M) fun r2 M1 =>
  ck (isB r2) <|
  some (r2, M1)
def fX5_hasRow (o : Nat) (x1 : Int32) (M : Mem) : Option (Int32 × Mem) :=
  ck (ib x1 4) <|
  if (M.1 (o + 2) (tn x1)) = (-1 : Int32) then
    some ((0 : Int32), M)
  else
    some ((1 : Int32), M)
def fX5_at (o : Nat) (x1 : Int32) (x2 : Int32) (M : Mem) : Option (Int64 × Mem) :=
  ck (ib (((60 : Int32) * x1) + x2) 240) <|
  some ((M.2 (o + 3) (tn (((60 : Int32) * x1) + x2))), M)
def fX5_allWithin_2  : Nat → Nat → Int32 → Int32 → Int32 → Mem → Option (Int32 × Mem)
  | 0, _, _, _, _, _ => none
  | n + 1, o, x1, x2, x3, M =>
    ck (ib x1 4) <|
    if (M.1 (o + 2) (tn x1)) ≤ x3 then
      some ((1 : Int32), M)
    else
      bL (fX5_at o x1 x3 M) fun r2 M1 =>
      bI (fX9_within r2 (0 : Int64) (x2).toInt64 M1) fun r4 M3 =>
      if r4 = 0 then
        some ((0 : Int32), M3)
      else
        fX5_allWithin_2  n o x1 x2 (x3 + (1 : Int32)) M3
def fX5_allWithin (o : Nat) (x1 : Int32) (x2 : Int32) (M : Mem) : Option (Int32 × Mem) :=
  fX5_allWithin_2  LF o x1 x2 (0 : Int32) M
def fX9_trace_108 (k62 : Nat → Int32 → Int32 → Int32 → Mem → Option (Int32 × Mem)) (o : Nat) (x1 : Int32) (x2 : Int32) (x3 : Int32) (x4 : Int32) (M : Mem) : Option (Int32 × Mem) :=
  bV (fX1_learn (o + 58) (irm x4 (2 : Int32)) M) fun M1 =>
  k62 o x1 x2 (x3 + (1 : Int32)) M1
def fX9_trace_62  : Nat → Nat → Int32 → Int32 → Int32 → Mem → Option (Int32 × Mem)
  | 0, _, _, _, _, _ => none
  | n + 1, o, x1, x2, x3, M =>
    ck (ib x1 4) <|
    if (M.1 ((o + 76) + 2) (tn x1)) ≤ x3 then
      some (x2, M)
    else
      bL (fX5_at (o + 76) x1 x3 M) fun r2 M1 =>
      bI (fX1_ask (o + 58) ((r2).toInt32 / (2 : Int32)) M1) fun r4 M3 =>
      if r4 = (irm (r2).toInt32 (2 : Int32)) then
        fX9_trace_108 (fX9_trace_62  n) o x1 x2 x3 (r2).toInt32 M3
      else
        fX9_trace_108 (fX9_trace_62  n) o x1 (x2 + (1 : Int32)) x3 (r2).toInt32 M3
def fX9_trace (o : Nat) (x1 : Int32) (M : Mem) : Option (Int32 × Mem) :=
  bI (fX9_isTold o M) fun r2 M1 =>
  if r2 = 0 then
    some ((-2 : Int32), M1)
  else
    bI (fX9_isSlot x1 M1) fun r4 M3 =>
    if r4 = 0 then
      some ((-2 : Int32), M3)
    else
      bI (fX5_hasRow (o + 76) x1 M3) fun r6 M5 =>
      if r6 = 0 then
        some ((-6 : Int32), M5)
      else
        bI (fX5_allWithin (o + 76) x1 (127 : Int32) M5) fun r8 M7 =>
        if r8 = 0 then
          some ((-2 : Int32), M7)
        else
          bV (fX1_setAs (o + 58) (o + 9) M7) fun M9 =>
          fX9_trace_62  LF o x1 (0 : Int32) (0 : Int32) M9
def fX9_rivalGuessesAs_2  : Nat → Nat → Int32 → Int32 → Mem → Option (Int32 × Mem)
  | 0, _, _, _, _ => none
  | n + 1, o, x1, x2, M =>
    ck (ib x1 4) <|
    if (M.1 ((o + 76) + 2) (tn x1)) ≤ x2 then
      some ((1 : Int32), M)
    else
      bI (fX8_fact (o + 39) x2 (0 : Int32) M) fun r2 M1 =>
      bI (fX1_ask (o + 58) r2 M1) fun r4 M3 =>
      bL (fX5_at (o + 76) x1 x2 M3) fun r6 M5 =>
      if (lg_cmp (r4).toInt64 r6) = 0 then
        bI (fX8_fact (o + 39) x2 (1 : Int32) M5) fun r8 M7 =>
        bV (fX1_learn (o + 58) r8 M7) fun M9 =>
        fX9_rivalGuessesAs_2  n o x1 (x2 + (1 : Int32)) M9
      else
        some ((0 : Int32), M5)
def fX9_rivalGuessesAs (o : Nat) (x1 : Int32) (M : Mem) : Option (Int32 × Mem) :=
  fX9_rivalGuessesAs_2  LF o x1 (0 : Int32) M
def fX9_like_94 (k69 : Nat → Int32 → Int32 → Int32 → Mem → Option (Int32 × Mem)) (o : Nat) (x1 : Int32) (x2 : Int32) (x3 : Int32) (M : Mem) : Option (Int32 × Mem) :=
  k69 o x1 x2 (x3 + (1 : Int32)) M
def fX9_like_69  : Nat → Nat → Int32 → Int32 → Int32 → Mem → Option (Int32 × Mem)
  | 0, _, _, _, _, _ => none
  | n + 1, o, x1, x2, x3, M =>
    if (8 : Int32) ≤ x3 then
      some (x2, M)
    else
      bV (fX9_setRivalBy o x3 M) fun M1 =>
      bI (fX9_rivalGuessesAs o x1 M1) fun r3 M2 =>
      if r3 = 0 then
        fX9_like_94 (fX9_like_69  n) o x1 x2 x3 M2
      else
        fX9_like_94 (fX9_like_69  n) o x1 (x2 ||| ((1 : Int32) <<< (x3 &&& 31))) x3 M2
def fX9_like (o : Nat) (x1 : Int32) (M : Mem) : Option (Int32 × Mem) :=
  bI (fX9_isTold o M) fun r2 M1 =>
  if r2 = 0 then
    some ((-2 : Int32), M1)
  else
    bI (fX9_isSlot x1 M1) fun r4 M3 =>
    if r4 = 0 then
      some ((-2 : Int32), M3)
    else
      bI (fX5_hasRow (o + 76) x1 M3) fun r6 M5 =>
      if r6 = 0 then
        some ((-6 : Int32), M5)
      else
        bI (fX5_allWithin (o + 76) x1 (1 : Int32) M5) fun r8 M7 =>
        if r8 = 0 then
          some ((-2 : Int32), M7)
        else
          ck (ib x1 4) <|
          if (M7.1 ((o + 76) + 2) (tn x1)) ≤ (M7.1 (o + 39) 1) then
            fX9_like_69  LF o x1 (0 : Int32) (0 : Int32) M7
          else
            some ((-2 : Int32), M7)
def fX9_meets (o : Nat) (x1 : Int32) (x2 : Int32) (M : Mem) : Option (Int32 × Mem) :=
  bI (fX9_isTold o M) fun r2 M1 =>
  if r2 = 0 then
    some ((-2 : Int32), M1)
  else
    bI (fX9_isAddress x1 M1) fun r4 M3 =>
    if r4 = 0 then
      some ((-2 : Int32), M3)
    else
      bI (fX9_within (x2).toInt64 (0 : Int64) (1 : Int64) M3) fun r6 M5 =>
      if r6 = 0 then
        some ((-2 : Int32), M5)
      else
        if (M5.1 (o + 9) 8) < (40 : Int32) then
          bV (fX9_goTo o (M5.1 (o + 39) 1) M5) fun M7 =>
          ck (ib (M7.1 (o + 9) 8) 40) <|
          bV (fX8_add (o + 39) x1 x2 (-1 : Int32) (pI (pI M7 ((o + 9) + 5) (tn (M7.1 (o + 9) 8)) (((2 : Int32) * x1) + x2)) (o + 9) 8 (((pI M7 ((o + 9) + 5) (tn (M7.1 (o + 9) 8)) (((2 : Int32) * x1) + x2)).1 (o + 9) 8) + (1 : Int32)))) fun M8 =>
          bV (fX9_record o (M5.1 (o + 39) 1) M8) fun M9 =>
          bI (fX8_isWrong (o + 39) (M5.1 (o + 39) 1) M9) fun r11 M10 =>
          if r11 = 0 then
            some ((1 : Int32), M10)
          else
            some ((0 : Int32), M10)
        else
          some ((-5 : Int32), M5)
def fX9_keepActs (o : Nat) (x1 : Int32) (M : Mem) : Option (Mem) :=
  some (pI (pI M (o + 9) 8 x1) (o + 39) 1 (((pI M (o + 9) 8 x1).1 (o + 39) 2) + x1))
def fX9_undo (o : Nat) (M : Mem) : Option (Int32 × Mem) :=
  bI (fX9_isTold o M) fun r2 M1 =>
  if r2 = 0 then
    some ((-2 : Int32), M1)
  else
    if (M1.1 (o + 9) 8) = 0 then
      some ((-5 : Int32), M1)
    else
      bV (fX9_keepActs o ((M1.1 (o + 9) 8) - (1 : Int32)) M1) fun M3 =>
      some ((M3.1 (o + 9) 8), M3)
def fX9_anew (o : Nat) (M : Mem) : Option (Int32 × Mem) :=
  bI (fX9_isTold o M) fun r2 M1 =>
  if r2 = 0 then
    some ((-2 : Int32), M1)
  else
    bV (fX9_keepActs o (0 : Int32) M1) fun M3 =>
    some ((M1.1 (o + 9) 8), M3)
def fX5_used_20 (k4 : Nat → Int32 → Int32 → Mem → Option (Int32 × Mem)) (o : Nat) (x1 : Int32) (x2 : Int32) (M : Mem) : Option (Int32 × Mem) :=
  k4 o x1 (x2 + (1 : Int32)) M
def fX5_used_4  : Nat → Nat → Int32 → Int32 → Mem → Option (Int32 × Mem)
  | 0, _, _, _, _ => none
  | n + 1, o, x1, x2, M =>
    if (4 : Int32) ≤ x2 then
      some (x1, M)
    else
      bI (fX5_hasRow o x2 M) fun r2 M1 =>
      if r2 = 0 then
        fX5_used_20 (fX5_used_4  n) o x1 x2 M1
      else
        fX5_used_20 (fX5_used_4  n) o (x1 + (1 : Int32)) x2 M1
def fX5_used (o : Nat) (M : Mem) : Option (Int32 × Mem) :=
  fX5_used_4  LF o (0 : Int32) (0 : Int32) M
def fX9_count (o : Nat) (x1 : Int32) (M : Mem) : Option (Int32 × Mem) :=
  bI (fX9_within (x1).toInt64 (0 : Int64) (5 : Int64) M) fun r2 M1 =>
  if r2 = 0 then
    if x1 = 6 then
      some ((M1.1 (o + 9) 6), M1)
    else
    if x1 = 7 then
      some ((M1.1 (o + 9) 7), M1)
    else
    if x1 = 8 then
      some ((M1.1 (o + 39) 2), M1)
    else
    if x1 = 9 then
      some ((M1.1 (o + 9) 8), M1)
    else
    if x1 = 10 then
      some ((M1.1 (o + 9) 5), M1)
    else
    if x1 = 11 then
      some ((M1.1 (o + 1) 1), M1)
    else
    if x1 = 12 then
      bI (fX5_used (o + 76) M1) fun r4 M3 =>
      some (r4, M3)
    else
      some ((-1 : Int32), M1)
  else
    ck (ib x1 6) <|
    some ((M1.1 ((o + 9) + 1) (tn x1)), M1)
def fX9_image (o : Nat) (x1 : Int32) (M : Mem) : Option (Int32 × Mem) :=
  bI (fX9_within (x1).toInt64 (0 : Int64) (2 : Int64) M) fun r2 M1 =>
  if r2 = 0 then
    some ((-2 : Int32), M1)
  else
    ck (ib x1 3) <|
    bV (fX7_copyFrom ((o + 15) + 1 + 6 * tn x1) (o + 9) M1) fun M3 =>
    ck (ib x1 3) <|
    some ((0 : Int32), (pI M3 (o + 34) (tn x1) (vp_nar .boolean (1 : Int32))))
def fX9_back (o : Nat) (x1 : Int32) (M : Mem) : Option (Int32 × Mem) :=
  bI (fX9_within (x1).toInt64 (0 : Int64) (2 : Int64) M) fun r2 M1 =>
  if r2 = 0 then
    some ((-2 : Int32), M1)
  else
    ck (ib x1 3) <|
    if (M1.1 (o + 34) (tn x1)) = 0 then
      some ((-6 : Int32), M1)
    else
      ck (ib x1 3) <|
      bV (fX7_copyFrom (o + 9) ((o + 15) + 1 + 6 * tn x1) M1) fun M3 =>
      bV (fX9_rebuild o M3) fun M4 =>
      some ((0 : Int32), M4)
def fJ7_rangeCheck_23922 (x0 : Int32) (x1 : Int32) (x2 : Int32) (M : Mem) : Option (Mem) :=
  if x1 ≤ x2 then
    if 0 ≤ x1 then
      if x2 ≤ x0 then
        some M
      else
        none
    else
      none
  else
    none
def fJ7_fill_bad5a_10  : Nat → Nat → Int32 → Int64 → Int32 → Mem → Option (Mem)
  | 0, _, _, _, _, _ => none
  | n + 1, c0, x2, l3, x5, M =>
    if x2 ≤ x5 then
      some M
    else
      ck (ib x5 (kd c0).2) <|
      fJ7_fill_bad5a_10  n c0 x2 l3 (x5 + (1 : Int32)) (pL M c0 (tn x5) l3)
def fJ7_fill_bad5a (c0 : Nat) (x1 : Int32) (x2 : Int32) (l3 : Int64) (M : Mem) : Option (Mem) :=
  bV (fJ7_rangeCheck_23922 (nI (kd c0).2) x1 x2 M) fun M1 =>
  fJ7_fill_bad5a_10  LF c0 x2 l3 x1 M1
def fX5_renew (o : Nat) (x1 : Int32) (x2 : Int32) (x3 : Int32) (M : Mem) : Option (Mem) :=
  ck (ib x1 4) <|
  ck (ib x1 4) <|
  bV (fJ7_fill_bad5a (o + 3) ((60 : Int32) * x1) ((60 : Int32) * (x1 + (1 : Int32))) (0 : Int64) (pI (pI M (o + 1) (tn x1) x2) (o + 2) (tn x1) x3)) fun M1 =>
  some M1
def fX9_row (o : Nat) (x1 : Int32) (x2 : Int32) (x3 : Int32) (M : Mem) : Option (Int32 × Mem) :=
  bI (fX9_isSlot x1 M) fun r2 M1 =>
  if r2 = 0 then
    some ((-2 : Int32), M1)
  else
    bI (fX9_within (x2).toInt64 (0 : Int64) (1 : Int64) M1) fun r4 M3 =>
    if r4 = 0 then
      some ((-2 : Int32), M3)
    else
      if x3 ≤ (60 : Int32) then
        if 0 ≤ x3 then
          bV (fX5_renew (o + 76) x1 x2 x3 M3) fun M5 =>
          some ((0 : Int32), M5)
        else
          some ((-3 : Int32), M3)
      else
        some ((-2 : Int32), M3)
def fX5_set (o : Nat) (x1 : Int32) (x2 : Int32) (l3 : Int64) (M : Mem) : Option (Mem) :=
  ck (ib x1 4) <|
  if (M.1 (o + 1) (tn x1)) = 0 then
    ck (ib (((60 : Int32) * x1) + x2) 240) <|
    some (pL M (o + 3) (tn (((60 : Int32) * x1) + x2)) ((l3).toInt32).toInt64)
  else
    ck (ib (((60 : Int32) * x1) + x2) 240) <|
    some (pL M (o + 3) (tn (((60 : Int32) * x1) + x2)) l3)
def fX9_write (o : Nat) (x1 : Int32) (x2 : Int32) (l3 : Int64) (M : Mem) : Option (Int32 × Mem) :=
  bI (fX9_isSlot x1 M) fun r2 M1 =>
  if r2 = 0 then
    some ((-2 : Int32), M1)
  else
    bI (fX5_hasRow (o + 76) x1 M1) fun r4 M3 =>
    if r4 = 0 then
      some ((-6 : Int32), M3)
    else
      ck (ib x1 4) <|
      bI (fX9_within (x2).toInt64 (0 : Int64) (((M3.1 ((o + 76) + 2) (tn x1)) - (1 : Int32))).toInt64 M3) fun r6 M5 =>
      if r6 = 0 then
        some ((-7 : Int32), M5)
      else
        bV (fX5_set (o + 76) x1 x2 l3 M5) fun M7 =>
        some ((0 : Int32), M7)
def fX9_number (o : Nat) (x1 : Int32) (x2 : Int32) (M : Mem) : Option (Int64 × Mem) :=
  bI (fX9_isSlot x1 M) fun r2 M1 =>
  if r2 = 0 then
    some ((-1000 : Int64), M1)
  else
    ck (ib x1 4) <|
    bI (fX9_within (x2).toInt64 (0 : Int64) (((M1.1 ((o + 76) + 2) (tn x1)) - (1 : Int32))).toInt64 M1) fun r4 M3 =>
    if r4 = 0 then
      some ((-1000 : Int64), M3)
    else
      bL (fX5_at (o + 76) x1 x2 M3) fun r6 M5 =>
      some (r6, M5)
def fX10_in (l0 : Int64) (l2 : Int64) (l4 : Int64) (M : Mem) : Option (Int32 × Mem) :=
  if (lg_cmp l0 l2) < 0 then
    some ((0 : Int32), M)
  else
    if 0 < (lg_cmp l0 l4) then
      some ((0 : Int32), M)
    else
      some ((1 : Int32), M)
def fX10_between (x0 : Int32) (x1 : Int32) (x2 : Int32) (M : Mem) : Option (Int32 × Mem) :=
  some ((if x1 < (if x0 < x2 then x0 else x2) then (if x0 < x2 then x0 else x2) else x1), M)
def fX10_image_17  : Nat → Nat → Int32 → Int32 → Mem → Option (Int32 × Mem)
  | 0, _, _, _, _ => none
  | n + 1, o, x1, x2, M =>
    if (215 : Int32) ≤ x2 then
      ck (ib x1 3) <|
      some ((0 : Int32), (pI M (o + 3) (tn x1) (vp_nar .boolean (1 : Int32))))
    else
      ck (ib x2 215) <|
      ck (ib (((215 : Int32) * x1) + x2) 645) <|
      fX10_image_17  n o x1 (x2 + (1 : Int32)) (pI M (o + 2) (tn (((215 : Int32) * x1) + x2)) (M.1 (o + 1) (tn x2)))
def fX10_image (o : Nat) (x1 : Int32) (M : Mem) : Option (Int32 × Mem) :=
  bI (fX10_in (x1).toInt64 (0 : Int64) (2 : Int64) M) fun r2 M1 =>
  if r2 = 0 then
    some ((-2 : Int32), M1)
  else
    fX10_image_17  LF o x1 (0 : Int32) M1
def fX10_back_29  : Nat → Nat → Int32 → Int32 → Mem → Option (Int32 × Mem)
  | 0, _, _, _, _ => none
  | n + 1, o, x1, x2, M =>
    if (215 : Int32) ≤ x2 then
      some ((0 : Int32), M)
    else
      ck (ib (((215 : Int32) * x1) + x2) 645) <|
      ck (ib x2 215) <|
      fX10_back_29  n o x1 (x2 + (1 : Int32)) (pI M (o + 1) (tn x2) (M.1 (o + 2) (tn (((215 : Int32) * x1) + x2))))
def fX10_back (o : Nat) (x1 : Int32) (M : Mem) : Option (Int32 × Mem) :=
  bI (fX10_in (x1).toInt64 (0 : Int64) (2 : Int64) M) fun r2 M1 =>
  if r2 = 0 then
    some ((-2 : Int32), M1)
  else
    ck (ib x1 3) <|
    if (M1.1 (o + 3) (tn x1)) = 0 then
      some ((-6 : Int32), M1)
    else
      fX10_back_29  LF o x1 (0 : Int32) M1
def fX10_isProgram (o : Nat) (M : Mem) : Option (Int32 × Mem) :=
  ck (ib (9 : Int32) 215) <|
  if (M.1 (o + 1) (tn (9 : Int32))) ≤ 0 then
    some ((0 : Int32), M)
  else
    some ((1 : Int32), M)
def fX10_isOp (o : Nat) (x1 : Int32) (M : Mem) : Option (Int32 × Mem) :=
  ck (ib (7 : Int32) 215) <|
  bI (fX10_in (x1).toInt64 (0 : Int64) (((M.1 (o + 1) (tn (7 : Int32))) - (1 : Int32))).toInt64 M) fun r2 M1 =>
  ck (isB r2) <|
  some (r2, M1)
def fX10_kindOf (o : Nat) (x1 : Int32) (M : Mem) : Option (Int32 × Mem) :=
  ck (ib ((15 : Int32) + ((4 : Int32) * x1)) 215) <|
  some ((M.1 (o + 1) (tn ((15 : Int32) + ((4 : Int32) * x1)))), M)
def fX10_numberOf (o : Nat) (x1 : Int32) (x2 : Int32) (M : Mem) : Option (Int32 × Mem) :=
  ck (ib ((((15 : Int32) + ((4 : Int32) * x1)) + (1 : Int32)) + x2) 215) <|
  some ((M.1 (o + 1) (tn ((((15 : Int32) + ((4 : Int32) * x1)) + (1 : Int32)) + x2))), M)
def fX10_numbersOf (x0 : Int32) (M : Mem) : Option (Int32 × Mem) :=
  if x0 = (6 : Int32) then
    some ((3 : Int32), M)
  else
    if x0 = (7 : Int32) then
      some ((3 : Int32), M)
    else
      if x0 = (9 : Int32) then
        some ((1 : Int32), M)
      else
        if x0 = (10 : Int32) then
          some ((0 : Int32), M)
        else
          some ((2 : Int32), M)
def fX10_highOf_19  (x0 : Int32) (x1 : Int32) (M : Mem) : Option (Int32 × Mem) :=
  if x1 = (1 : Int32) then
    if (3 : Int32) ≤ x0 then
      some ((7 : Int32), M)
    else
      some ((999 : Int32), M)
  else
    some ((7 : Int32), M)
def fX10_highOf (x0 : Int32) (x1 : Int32) (M : Mem) : Option (Int32 × Mem) :=
  bI (fX10_numbersOf x0 M) fun r2 M1 =>
  if x1 = (r2 - (1 : Int32)) then
    if x0 < (6 : Int32) then
      fX10_highOf_19  x0 x1 M1
    else
      some ((39 : Int32), M1)
  else
    fX10_highOf_19  x0 x1 M1
def fX10_wordOf (x0 : Int32) (M : Mem) : Option (Nat × Mem) :=
  if x0 = 0 then
    some (25, M)
  else
  if x0 = 1 then
    some (26, M)
  else
  if x0 = 2 then
    some (27, M)
  else
  if x0 = 3 then
    some (28, M)
  else
  if x0 = 4 then
    some (29, M)
  else
  if x0 = 5 then
    some (30, M)
  else
  if x0 = 6 then
    some (31, M)
  else
  if x0 = 7 then
    some (32, M)
  else
  if x0 = 8 then
    some (33, M)
  else
  if x0 = 9 then
    some (34, M)
  else
    some (35, M)
def fX10_feed_55  : Nat → Nat → Int32 → Mem → Option (Int32 × Mem)
  | 0, _, _, _ => none
  | n + 1, o, x6, M =>
    if (20 : Int32) ≤ x6 then
      some (((pI M o 5 ((M.1 o 5) + (20 : Int32))).1 o 5), (pI M o 5 ((M.1 o 5) + (20 : Int32))))
    else
      ck (ib (x6 / (4 : Int32)) 5) <|
      ck (ib ((M.1 o 5) + x6) 800) <|
      fX10_feed_55  n o (x6 + (1 : Int32)) (pI M (o + 4) (tn ((M.1 o 5) + x6)) (vp_nar .byte (((M.1 (o + 5) (tn (x6 / (4 : Int32)))) >>> (((24 : Int32) - ((8 : Int32) * (irm x6 (4 : Int32)))) &&& 31))).toInt8.toInt32))
def fX10_feed (o : Nat) (x1 : Int32) (x2 : Int32) (x3 : Int32) (x4 : Int32) (x5 : Int32) (M : Mem) : Option (Int32 × Mem) :=
  if ((M.1 o 5) + (20 : Int32)) ≤ (800 : Int32) then
    ck (ib (0 : Int32) 5) <|
    ck (ib (1 : Int32) 5) <|
    ck (ib (2 : Int32) 5) <|
    ck (ib (3 : Int32) 5) <|
    ck (ib (4 : Int32) 5) <|
    fX10_feed_55  LF o (0 : Int32) (pI (pI (pI (pI (pI M (o + 5) (tn (0 : Int32)) x1) (o + 5) (tn (1 : Int32)) x2) (o + 5) (tn (2 : Int32)) x3) (o + 5) (tn (3 : Int32)) x4) (o + 5) (tn (4 : Int32)) x5)
  else
    some ((-1 : Int32), M)
def fX10_end (o : Nat) (x1 : Int32) (M : Mem) : Option (Int32 × Mem) :=
  bI (fX10_in (x1).toInt64 (0 : Int64) ((M.1 o 5)).toInt64 M) fun r2 M1 =>
  if r2 = 0 then
    some ((-1 : Int32), M1)
  else
    some (x1, (pI M1 o 5 x1))
def fX10_see (o : Nat) (x1 : Int32) (M : Mem) : Option (Int32 × Mem) :=
  if (M.1 o 7) ≤ x1 then
    some ((-1 : Int32), M)
  else
    ck (ib x1 800) <|
    some (((M.1 (o + 4) (tn x1)) &&& (255 : Int32)), M)
def fX10_advance_26 (k0 : Nat → Mem → Option (Mem)) (o : Nat) (M : Mem) : Option (Mem) :=
  k0 o (pI M o 8 ((M.1 o 8) + (1 : Int32)))
def fX10_advance_226  (o : Nat) (so0 : Nat) (sx1 : Int32) (M : Mem) : Option (Mem) :=
  some (pI (pI M so0 10 sx1) o 8 (((pI M so0 10 sx1).1 o 8) + (1 : Int32)))
def fX10_advance_144  : Nat → Nat → Mem → Option (Mem)
  | 0, _, _ => none
  | n + 1, o, M =>
    bI (fX10_see o (M.1 o 8) M) fun r2 M1 =>
    bI (fX10_in (r2).toInt64 (48 : Int64) (57 : Int64) M1) fun r4 M3 =>
    if r4 = 0 then
      some (pI M3 o 10 (2 : Int32))
    else
      bI (fX10_see o (M3.1 o 8) M3) fun r6 M5 =>
      fX10_advance_144  n o (pI (pI M5 o 11 (if ((((10 : Int32) * (M3.1 o 11)) + r6) - (48 : Int32)) < (99999 : Int32) then ((((10 : Int32) * (M3.1 o 11)) + r6) - (48 : Int32)) else (99999 : Int32))) o 8 (((pI M5 o 11 (if ((((10 : Int32) * (M3.1 o 11)) + r6) - (48 : Int32)) < (99999 : Int32) then ((((10 : Int32) * (M3.1 o 11)) + r6) - (48 : Int32)) else (99999 : Int32))).1 o 8) + (1 : Int32)))
def fX10_advance_83  : Nat → Nat → Mem → Option (Mem)
  | 0, _, _ => none
  | n + 1, o, M =>
    bI (fX10_see o (M.1 o 8) M) fun r2 M1 =>
    bI (fX10_in (r2).toInt64 (97 : Int64) (122 : Int64) M1) fun r4 M3 =>
    if r4 = 0 then
      some (pI M3 o 10 (1 : Int32))
    else
      fX10_advance_83  n o (pI M3 o 8 ((M3.1 o 8) + (1 : Int32)))
def fX10_advance_0  : Nat → Nat → Mem → Option (Mem)
  | 0, _, _ => none
  | n + 1, o, M =>
    bI (fX10_see o (M.1 o 8) M) fun r2 M1 =>
    if r2 = (32 : Int32) then
      fX10_advance_26 (fX10_advance_0  n) o M1
    else
      bI (fX10_see o (M1.1 o 8) M1) fun r4 M3 =>
      if r4 = (10 : Int32) then
        fX10_advance_26 (fX10_advance_0  n) o M3
      else
        bI (fX10_see o ((pI M3 o 9 (M3.1 o 8)).1 o 8) (pI M3 o 9 (M3.1 o 8))) fun r6 M5 =>
        if r6 = (-1 : Int32) then
          some (pI M5 o 10 (0 : Int32))
        else
          bI (fX10_in (r6).toInt64 (97 : Int64) (122 : Int64) M5) fun r8 M7 =>
          if r8 = 0 then
            bI (fX10_in (r6).toInt64 (48 : Int64) (57 : Int64) M7) fun r10 M9 =>
            if r10 = 0 then
              if r6 = (59 : Int32) then
                fX10_advance_226  o o (3 : Int32) M9
              else
                fX10_advance_226  o o (4 : Int32) M9
            else
              fX10_advance_144  LF o (pI M9 o 11 (0 : Int32))
          else
            fX10_advance_83  LF o M7
def fX10_advance (o : Nat) (M : Mem) : Option (Mem) :=
  fX10_advance_0  LF o M
def fX10_good (o : Nat) (M : Mem) : Option (Int32 × Mem) :=
  if (M.1 o 12) = 0 then
    some ((1 : Int32), M)
  else
    some ((0 : Int32), M)
def fX10_errs (o : Nat) (x1 : Int32) (M : Mem) : Option (Mem) :=
  bI (fX10_good o M) fun r2 M1 =>
  if r2 = 0 then
    some M1
  else
    some (pI (pI M1 o 12 x1) o 13 ((pI M1 o 12 x1).1 o 9))
def fX10_is_75 (k39 : Nat → Nat → Int32 → Int32 → Mem → Option (Int32 × Mem)) (o : Nat) (j1 : Nat) (x3 : Int32) (sx0 : Int32) (M : Mem) : Option (Int32 × Mem) :=
  k39 o j1 sx0 (x3 + (1 : Int32)) M
def fX10_is_39  : Nat → Nat → Nat → Int32 → Int32 → Mem → Option (Int32 × Mem)
  | 0, _, _, _, _, _ => none
  | n + 1, o, j1, x2, x3, M =>
    if (nI (sl j1)) ≤ x3 then
      ck (isB x2) <|
      some (x2, M)
    else
      if x2 = 0 then
        ck (isB x2) <|
        some (x2, M)
      else
        ck (ib ((M.1 o 9) + x3) 800) <|
        ck (ib x3 (sl j1)) <|
        if (M.1 (o + 4) (tn ((M.1 o 9) + x3))) = (sc j1 (tn x3)) then
          fX10_is_75 (fX10_is_39  n) o j1 x3 (1 : Int32) M
        else
          fX10_is_75 (fX10_is_39  n) o j1 x3 (0 : Int32) M
def fX10_is_36  (o : Nat) (j1 : Nat) (sx0 : Int32) (M : Mem) : Option (Int32 × Mem) :=
  fX10_is_39  LF o j1 sx0 (0 : Int32) M
def fX10_is_35  (o : Nat) (j1 : Nat) (M : Mem) : Option (Int32 × Mem) :=
  fX10_is_36  o j1 (0 : Int32) M
def fX10_is (o : Nat) (j1 : Nat) (M : Mem) : Option (Int32 × Mem) :=
  bI (fX10_good o M) fun r2 M1 =>
  if r2 = 0 then
    fX10_is_35  o j1 M1
  else
    if (M1.1 o 10) = (1 : Int32) then
      if ((M1.1 o 8) - (M1.1 o 9)) = (nI (sl j1)) then
        fX10_is_36  o j1 (1 : Int32) M1
      else
        fX10_is_35  o j1 M1
    else
      fX10_is_35  o j1 M1
def fX10_expects (o : Nat) (j1 : Nat) (M : Mem) : Option (Mem) :=
  bI (fX10_is o j1 M) fun r2 M1 =>
  if r2 = 0 then
    bV (fX10_errs o (1 : Int32) M1) fun M3 =>
    some M3
  else
    bV (fX10_advance o M1) fun M4 =>
    some M4
def fX10_takes_47  (o : Nat) (M : Mem) : Option (Int32 × Mem) :=
  bI (fX10_good o M) fun r2 M1 =>
  if r2 = 0 then
    some ((0 : Int32), M1)
  else
    bV (fX10_advance o M1) fun M3 =>
    some ((M1.1 o 11), M3)
def fX10_takes_20  (o : Nat) (x1 : Int32) (x2 : Int32) (M : Mem) : Option (Int32 × Mem) :=
  bI (fX10_good o M) fun r2 M1 =>
  if r2 = 0 then
    fX10_takes_47  o M1
  else
    bI (fX10_in ((M1.1 o 11)).toInt64 (x1).toInt64 (x2).toInt64 M1) fun r4 M3 =>
    if r4 = 0 then
      bV (fX10_errs o (2 : Int32) M3) fun M5 =>
      fX10_takes_47  o M5
    else
      fX10_takes_47  o M3
def fX10_takes (o : Nat) (x1 : Int32) (x2 : Int32) (M : Mem) : Option (Int32 × Mem) :=
  bI (fX10_good o M) fun r2 M1 =>
  if r2 = 0 then
    fX10_takes_20  o x1 x2 M1
  else
    if (M1.1 o 10) = (2 : Int32) then
      fX10_takes_20  o x1 x2 M1
    else
      bV (fX10_errs o (1 : Int32) M1) fun M3 =>
      fX10_takes_20  o x1 x2 M3
def fX10_toldBy (o : Nat) (j1 : Nat) (x2 : Int32) (x3 : Int32) (M : Mem) : Option (Int32 × Mem) :=
  bV (fX10_expects o j1 M) fun M1 =>
  bI (fX10_takes o x2 x3 M1) fun r3 M2 =>
  some (r3, M2)
def fX10_fault (o : Nat) (x1 : Int32) (M : Mem) : Option (Int32 × Mem) :=
  if x1 = 0 then
    some ((M.1 o 12), M)
  else
    if x1 = (1 : Int32) then
      some ((M.1 o 13), M)
    else
      some ((-1 : Int32), M)
def fX10_readFirst (o : Nat) (M : Mem) : Option (Mem) :=
  bV (fX10_expects o 36 M) fun M1 =>
  bI (fX10_toldBy o 37 (1 : Int32) (4 : Int32) M1) fun r3 M2 =>
  ck (ib (0 : Int32) 215) <|
  bI (fX10_toldBy o 38 (2 : Int32) (6 : Int32) (pI M2 (o + 6) (tn (0 : Int32)) r3)) fun r5 M4 =>
  ck (ib (1 : Int32) 215) <|
  bI (fX10_toldBy o 39 (1 : Int32) (9 : Int32) (pI M4 (o + 6) (tn (1 : Int32)) r5)) fun r7 M6 =>
  ck (ib (2 : Int32) 215) <|
  bI (fX10_toldBy o 40 (0 : Int32) (20 : Int32) (pI M6 (o + 6) (tn (2 : Int32)) r7)) fun r9 M8 =>
  ck (ib (3 : Int32) 215) <|
  bI (fX10_toldBy o 41 (0 : Int32) (9 : Int32) (pI M8 (o + 6) (tn (3 : Int32)) r9)) fun r11 M10 =>
  ck (ib (4 : Int32) 215) <|
  bI (fX10_toldBy o 42 (0 : Int32) (7 : Int32) (pI M10 (o + 6) (tn (4 : Int32)) r11)) fun r13 M12 =>
  ck (ib (5 : Int32) 215) <|
  some (pI M12 (o + 6) (tn (5 : Int32)) r13)
def fX10_readSpan_76  (o : Nat) (sx0 : Int32) (M : Mem) : Option (Mem) :=
  ck (ib (6 : Int32) 215) <|
  bI (fX10_takes o sx0 (40 : Int32) M) fun r2 M1 =>
  ck (ib ((10 : Int32) + (M.1 (o + 6) (tn (6 : Int32)))) 215) <|
  ck (ib (6 : Int32) 215) <|
  ck (ib (6 : Int32) 215) <|
  some (pI (pI M1 (o + 6) (tn ((10 : Int32) + (M.1 (o + 6) (tn (6 : Int32))))) r2) (o + 6) (tn (6 : Int32)) (((pI M1 (o + 6) (tn ((10 : Int32) + (M.1 (o + 6) (tn (6 : Int32))))) r2).1 (o + 6) (tn (6 : Int32))) + (1 : Int32)))
def fX10_readSpan_31  (o : Nat) (M : Mem) : Option (Mem) :=
  bI (fX10_good o M) fun r2 M1 =>
  if r2 = 0 then
    some M1
  else
    bV (fX10_advance o M1) fun M3 =>
    ck (ib (6 : Int32) 215) <|
    if (M3.1 (o + 6) (tn (6 : Int32))) = 0 then
      fX10_readSpan_76  o (1 : Int32) M3
    else
      ck (ib (6 : Int32) 215) <|
      ck (ib (((10 : Int32) + (M3.1 (o + 6) (tn (6 : Int32)))) - (1 : Int32)) 215) <|
      fX10_readSpan_76  o ((M3.1 (o + 6) (tn (((10 : Int32) + (M3.1 (o + 6) (tn (6 : Int32)))) - (1 : Int32)))) + (1 : Int32)) M3
def fX10_readSpan_15  (o : Nat) (M : Mem) : Option (Mem) :=
  ck (ib (6 : Int32) 215) <|
  if (M.1 (o + 6) (tn (6 : Int32))) = (5 : Int32) then
    bV (fX10_errs o (3 : Int32) M) fun M1 =>
    fX10_readSpan_31  o M1
  else
    fX10_readSpan_31  o M
def fX10_readSpan (o : Nat) (M : Mem) : Option (Mem) :=
  ck (ib (7 : Int32) 215) <|
  if (M.1 (o + 6) (tn (7 : Int32))) ≤ 0 then
    fX10_readSpan_15  o M
  else
    bV (fX10_errs o (1 : Int32) M) fun M1 =>
    fX10_readSpan_15  o M1
def fX10_kindRead_2  : Nat → Nat → Int32 → Mem → Option (Int32 × Mem)
  | 0, _, _, _ => none
  | n + 1, o, x1, M =>
    if (10 : Int32) < x1 then
      some ((-1 : Int32), M)
    else
      bS (fX10_wordOf x1 M) fun r2 M1 =>
      bI (fX10_is o r2 M1) fun r4 M3 =>
      if r4 = 0 then
        fX10_kindRead_2  n o (x1 + (1 : Int32)) M3
      else
        some (x1, M3)
def fX10_kindRead (o : Nat) (M : Mem) : Option (Int32 × Mem) :=
  fX10_kindRead_2  LF o (0 : Int32) M
def fX10_readOp_102 (k66 : Nat → Int32 → Int32 → Int32 → Mem → Option (Mem)) (o : Nat) (x1 : Int32) (x2 : Int32) (x3 : Int32) (sc0 : Nat) (sx1 : Int32) (sx2 : Int32) (M : Mem) : Option (Mem) :=
  ck (ib sx1 215) <|
  k66 o x1 x2 (x3 + (1 : Int32)) (pI M sc0 (tn sx1) sx2)
def fX10_readOp_66  : Nat → Nat → Int32 → Int32 → Int32 → Mem → Option (Mem)
  | 0, _, _, _, _, _ => none
  | n + 1, o, x1, x2, x3, M =>
    if (3 : Int32) ≤ x3 then
      ck (ib (7 : Int32) 215) <|
      ck (ib (7 : Int32) 215) <|
      some (pI M (o + 6) (tn (7 : Int32)) ((M.1 (o + 6) (tn (7 : Int32))) + (1 : Int32)))
    else
      bI (fX10_numbersOf x1 M) fun r2 M1 =>
      if r2 ≤ x3 then
        fX10_readOp_102 (fX10_readOp_66  n) o x1 x2 x3 (o + 6) ((x2 + (1 : Int32)) + x3) (-1 : Int32) M1
      else
        bI (fX10_highOf x1 x3 M1) fun r4 M3 =>
        bI (fX10_takes o (0 : Int32) r4 M3) fun r6 M5 =>
        fX10_readOp_102 (fX10_readOp_66  n) o x1 x2 x3 (o + 6) ((x2 + (1 : Int32)) + x3) r6 M5
def fX10_readOp_32  (o : Nat) (x1 : Int32) (M : Mem) : Option (Mem) :=
  bI (fX10_good o M) fun r2 M1 =>
  if r2 = 0 then
    some M1
  else
    bV (fX10_advance o M1) fun M3 =>
    ck (ib (7 : Int32) 215) <|
    ck (ib ((15 : Int32) + ((4 : Int32) * (M3.1 (o + 6) (tn (7 : Int32))))) 215) <|
    fX10_readOp_66  LF o x1 ((15 : Int32) + ((4 : Int32) * (M3.1 (o + 6) (tn (7 : Int32))))) (0 : Int32) (pI M3 (o + 6) (tn ((15 : Int32) + ((4 : Int32) * (M3.1 (o + 6) (tn (7 : Int32)))))) x1)
def fX10_readOp_15  (o : Nat) (x1 : Int32) (M : Mem) : Option (Mem) :=
  ck (ib (7 : Int32) 215) <|
  if (M.1 (o + 6) (tn (7 : Int32))) = (40 : Int32) then
    bV (fX10_errs o (3 : Int32) M) fun M1 =>
    fX10_readOp_32  o x1 M1
  else
    fX10_readOp_32  o x1 M
def fX10_readOp (o : Nat) (M : Mem) : Option (Mem) :=
  bI (fX10_kindRead o M) fun r2 M1 =>
  if r2 = (-1 : Int32) then
    bV (fX10_errs o (1 : Int32) M1) fun M3 =>
    fX10_readOp_15  o r2 M3
  else
    fX10_readOp_15  o r2 M1
def fX10_readText_69  (o : Nat) (M : Mem) : Option (Mem) :=
  ck (ib (9 : Int32) 215) <|
  ck (ib (9 : Int32) 215) <|
  some (pI M (o + 6) (tn (9 : Int32)) ((M.1 (o + 6) (tn (9 : Int32))) + (1 : Int32)))
def fX10_readText_58  (o : Nat) (M : Mem) : Option (Mem) :=
  bI (fX10_good o M) fun r2 M1 =>
  if r2 = 0 then
    fX10_readText_69  o M1
  else
    bV (fX10_advance o M1) fun M3 =>
    fX10_readText_69  o M3
def fX10_readText_38  (o : Nat) (M : Mem) : Option (Mem) :=
  bI (fX10_good o M) fun r2 M1 =>
  if r2 = 0 then
    fX10_readText_58  o M1
  else
    if (M1.1 o 10) = (3 : Int32) then
      fX10_readText_58  o M1
    else
      bV (fX10_errs o (1 : Int32) M1) fun M3 =>
      fX10_readText_58  o M3
def fX10_readText (o : Nat) (M : Mem) : Option (Mem) :=
  ck (ib (9 : Int32) 215) <|
  if (M.1 (o + 6) (tn (9 : Int32))) = 0 then
    bV (fX10_readFirst o M) fun M5 =>
    fX10_readText_38  o M5
  else
    bI (fX10_is o 43 M) fun r2 M1 =>
    if r2 = 0 then
      bV (fX10_readOp o M1) fun M3 =>
      fX10_readText_38  o M3
    else
      bV (fX10_readSpan o M1) fun M4 =>
      fX10_readText_38  o M4
def fX10_program_87  : Nat → Nat → Int32 → Mem → Option (Int32 × Mem)
  | 0, _, _, _ => none
  | n + 1, o, x1, M =>
    if (215 : Int32) ≤ x1 then
      ck (ib (9 : Int32) 215) <|
      some ((M.1 (o + 1) (tn (9 : Int32))), M)
    else
      ck (ib x1 215) <|
      ck (ib x1 215) <|
      fX10_program_87  n o (x1 + (1 : Int32)) (pI M (o + 1) (tn x1) (M.1 (o + 6) (tn x1)))
def fX10_program_75  (o : Nat) (M : Mem) : Option (Int32 × Mem) :=
  bI (fX10_good o M) fun r2 M1 =>
  if r2 = 0 then
    some ((-4 : Int32), M1)
  else
    fX10_program_87  LF o (0 : Int32) M1
def fX10_program_54  : Nat → Nat → Mem → Option (Int32 × Mem)
  | 0, _, _ => none
  | n + 1, o, M =>
    bI (fX10_good o M) fun r2 M1 =>
    if r2 = 0 then
      fX10_program_75  o M1
    else
      if (M1.1 o 10) = 0 then
        fX10_program_75  o M1
      else
        bV (fX10_readText o M1) fun M3 =>
        fX10_program_54  n o M3
def fX10_program_30  : Nat → Nat → Int32 → Mem → Option (Int32 × Mem)
  | 0, _, _, _ => none
  | n + 1, o, x1, M =>
    if (215 : Int32) ≤ x1 then
      bV (fX10_advance o M) fun M1 =>
      fX10_program_54  LF o M1
    else
      ck (ib x1 215) <|
      fX10_program_30  n o (x1 + (1 : Int32)) (pI M (o + 6) (tn x1) (0 : Int32))
def fX10_program (o : Nat) (M : Mem) : Option (Int32 × Mem) :=
  fX10_program_30  LF o (0 : Int32) (pI (pI (pI (pI (pI M o 7 (M.1 o 5)) o 5 (0 : Int32)) o 8 (0 : Int32)) o 12 (0 : Int32)) o 13 (-1 : Int32))
def fX10_modulo (x0 : Int32) (M : Mem) : Option (Int32 × Mem) :=
  some ((irm (x0 + (1000 : Int32)) (1000 : Int32)), M)
def fX10_obey (x0 : Int32) (x1 : Int32) (x2 : Int32) (c3 : Nat) (x4 : Int32) (M : Mem) : Option (Mem) :=
  if x0 = 0 then
    ck (ib (x4 + x1) (kd c3).2) <|
    some (pI M c3 (tn (x4 + x1)) x2)
  else
  if x0 = 1 then
    ck (ib (x4 + x1) (kd c3).2) <|
    bI (fX10_modulo ((M.1 c3 (tn (x4 + x1))) + x2) M) fun r2 M1 =>
    ck (ib (x4 + x1) (kd c3).2) <|
    some (pI M1 c3 (tn (x4 + x1)) r2)
  else
  if x0 = 2 then
    ck (ib (x4 + x1) (kd c3).2) <|
    bI (fX10_modulo ((M.1 c3 (tn (x4 + x1))) - x2) M) fun r4 M3 =>
    ck (ib (x4 + x1) (kd c3).2) <|
    some (pI M3 c3 (tn (x4 + x1)) r4)
  else
  if x0 = 3 then
    ck (ib (x4 + x2) (kd c3).2) <|
    ck (ib (x4 + x1) (kd c3).2) <|
    some (pI M c3 (tn (x4 + x1)) (M.1 c3 (tn (x4 + x2))))
  else
  if x0 = 4 then
    ck (ib (x4 + x1) (kd c3).2) <|
    ck (ib (x4 + x2) (kd c3).2) <|
    bI (fX10_modulo ((M.1 c3 (tn (x4 + x1))) + (M.1 c3 (tn (x4 + x2)))) M) fun r6 M5 =>
    ck (ib (x4 + x1) (kd c3).2) <|
    some (pI M5 c3 (tn (x4 + x1)) r6)
  else
    ck (ib (x4 + x1) (kd c3).2) <|
    ck (ib (x4 + x2) (kd c3).2) <|
    bI (fX10_modulo ((M.1 c3 (tn (x4 + x1))) - (M.1 c3 (tn (x4 + x2)))) M) fun r8 M7 =>
    ck (ib (x4 + x1) (kd c3).2) <|
    some (pI M7 c3 (tn (x4 + x1)) r8)
def fX10_isBranch (x0 : Int32) (M : Mem) : Option (Int32 × Mem) :=
  bI (fX10_in (x0).toInt64 (6 : Int64) (8 : Int64) M) fun r2 M1 =>
  ck (isB r2) <|
  some (r2, M1)
def fX10_goalOf (o : Nat) (x1 : Int32) (M : Mem) : Option (Int32 × Mem) :=
  bI (fX10_kindOf o x1 M) fun r2 M1 =>
  bI (fX10_numbersOf r2 M1) fun r4 M3 =>
  bI (fX10_numberOf o x1 (r4 - (1 : Int32)) M3) fun r6 M5 =>
  some (r6, M5)
def fX10_isTaken (o : Nat) (x1 : Int32) (x2 : Int32) (M : Mem) : Option (Int32 × Mem) :=
  bI (fX10_numberOf o x1 (0 : Int32) M) fun r2 M1 =>
  ck (ib (x2 + r2) 1608) <|
  bI (fX10_kindOf o x1 M1) fun r4 M3 =>
  if r4 = (8 : Int32) then
    if (irm (M1.1 (o + 7) (tn (x2 + r2))) (2 : Int32)) = (1 : Int32) then
      some ((1 : Int32), M3)
    else
      some ((0 : Int32), M3)
  else
    bI (fX10_numberOf o x1 (1 : Int32) M3) fun r6 M5 =>
    ck (ib (x2 + r6) 1608) <|
    bI (fX10_kindOf o x1 M5) fun r8 M7 =>
    if r8 = (6 : Int32) then
      if (M5.1 (o + 7) (tn (x2 + r6))) ≤ (M1.1 (o + 7) (tn (x2 + r2))) then
        some ((0 : Int32), M7)
      else
        some ((1 : Int32), M7)
    else
      if (M1.1 (o + 7) (tn (x2 + r2))) = (M5.1 (o + 7) (tn (x2 + r6))) then
        some ((1 : Int32), M7)
      else
        some ((0 : Int32), M7)
def fX10_branches (o : Nat) (x1 : Int32) (x2 : Int32) (x3 : Int32) (M : Mem) : Option (Mem) :=
  ck (ib (M.1 o 23) 240) <|
  ck (ib ((pI M (o + 9) (tn (M.1 o 23)) x1).1 o 23) 240) <|
  ck (ib ((pI (pI M (o + 9) (tn (M.1 o 23)) x1) (o + 10) (tn ((pI M (o + 9) (tn (M.1 o 23)) x1).1 o 23)) x2).1 o 23) 240) <|
  some (pI (pI (pI (pI M (o + 9) (tn (M.1 o 23)) x1) (o + 10) (tn ((pI M (o + 9) (tn (M.1 o 23)) x1).1 o 23)) x2) (o + 11) (tn ((pI (pI M (o + 9) (tn (M.1 o 23)) x1) (o + 10) (tn ((pI M (o + 9) (tn (M.1 o 23)) x1).1 o 23)) x2).1 o 23)) x3) o 23 (((pI (pI (pI M (o + 9) (tn (M.1 o 23)) x1) (o + 10) (tn ((pI M (o + 9) (tn (M.1 o 23)) x1).1 o 23)) x2) (o + 11) (tn ((pI (pI M (o + 9) (tn (M.1 o 23)) x1) (o + 10) (tn ((pI M (o + 9) (tn (M.1 o 23)) x1).1 o 23)) x2).1 o 23)) x3).1 o 23) + (1 : Int32)))
def fX10_step_152  (o : Nat) (x3 : Int32) (M : Mem) : Option (Mem) :=
  ck (ib ((pI M o 20 ((M.1 o 20) + (1 : Int32))).1 o 20) 201) <|
  some (pI (pI M o 20 ((M.1 o 20) + (1 : Int32))) (o + 8) (tn ((pI M o 20 ((M.1 o 20) + (1 : Int32))).1 o 20)) x3)
def fX10_step_101  (o : Nat) (sx0 : Int32) (M : Mem) : Option (Mem) :=
  fX10_step_152  o sx0 M
def fX10_step_80  (o : Nat) (x1 : Int32) (x3 : Int32) (x4 : Int32) (so0 : Nat) (sx1 : Int32) (sx2 : Int32) (M : Mem) : Option (Mem) :=
  bV (fX10_branches so0 sx1 sx2 (M.1 o 20) M) fun M1 =>
  if x4 = 0 then
    fX10_step_101  o x3 M1
  else
    bI (fX10_goalOf o x1 M1) fun r3 M2 =>
    fX10_step_101  o r3 M2
def fX10_step_15  : Nat → Nat → Int32 → Int32 → Int32 → Int32 → Mem → Option (Mem)
  | 0, _, _, _, _, _, _ => none
  | n + 1, o, x1, x2, x3, x4, M =>
    if (8 : Int32) ≤ x4 then
      bI (fX10_kindOf o x1 M) fun r2 M1 =>
      bI (fX10_isBranch r2 M1) fun r4 M3 =>
      if r4 = 0 then
        bI (fX10_kindOf o x1 M3) fun r6 M5 =>
        if r6 = (9 : Int32) then
          bI (fX10_goalOf o x1 M5) fun r15 M14 =>
          fX10_step_152  o r15 M14
        else
          bI (fX10_kindOf o x1 M5) fun r8 M7 =>
          bI (fX10_numberOf o x1 (0 : Int32) M7) fun r10 M9 =>
          bI (fX10_numberOf o x1 (1 : Int32) M9) fun r12 M11 =>
          bV (fX10_obey r8 r10 r12 (o + 7) (x2 + (8 : Int32)) M11) fun M13 =>
          fX10_step_152  o x3 M13
      else
        bI (fX10_isTaken o x1 x2 M3) fun r17 M16 =>
        if r17 = 0 then
          fX10_step_80  o x1 x3 r17 o x1 (0 : Int32) M16
        else
          fX10_step_80  o x1 x3 r17 o x1 (1 : Int32) M16
    else
      ck (ib (x2 + x4) 1608) <|
      ck (ib ((x2 + (8 : Int32)) + x4) 1608) <|
      fX10_step_15  n o x1 x2 x3 (x4 + (1 : Int32)) (pI M (o + 7) (tn ((x2 + (8 : Int32)) + x4)) (M.1 (o + 7) (tn (x2 + x4))))
def fX10_step (o : Nat) (x1 : Int32) (M : Mem) : Option (Mem) :=
  fX10_step_15  LF o x1 ((8 : Int32) * (M.1 o 20)) (x1 + (1 : Int32)) (0 : Int32) M
def fX10_endNow (o : Nat) (M : Mem) : Option (Int32 × Mem) :=
  if (M.1 o 20) = (200 : Int32) then
    some ((3 : Int32), M)
  else
    ck (ib (M.1 o 20) 201) <|
    bI (fX10_isOp o (M.1 (o + 8) (tn (M.1 o 20))) M) fun r2 M1 =>
    if r2 = 0 then
      some ((2 : Int32), M1)
    else
      ck (ib (M1.1 o 20) 201) <|
      bI (fX10_kindOf o (M1.1 (o + 8) (tn (M1.1 o 20))) M1) fun r4 M3 =>
      if r4 = (10 : Int32) then
        some ((1 : Int32), M3)
      else
        some ((0 : Int32), M3)
def fX10_layRun_87  : Nat → Nat → Int32 → Mem → Option (Mem)
  | 0, _, _, _ => none
  | n + 1, o, x1, M =>
    ck (ib (8 : Int32) 215) <|
    if (M.1 (o + 1) (tn (8 : Int32))) ≤ x1 then
      some M
    else
      ck (ib ((175 : Int32) + x1) 215) <|
      ck (ib ((175 : Int32) + x1) 215) <|
      bV (fX10_branches o ((M.1 (o + 1) (tn ((175 : Int32) + x1))) / (2 : Int32)) (irm (M.1 (o + 1) (tn ((175 : Int32) + x1))) (2 : Int32)) (-1 : Int32) M) fun M1 =>
      fX10_layRun_87  n o (x1 + (1 : Int32)) M1
def fX10_layRun_46  : Nat → Nat → Mem → Option (Mem)
  | 0, _, _ => none
  | n + 1, o, M =>
    if (M.1 o 21) = 0 then
      ck (ib (M.1 o 20) 201) <|
      bV (fX10_step o (M.1 (o + 8) (tn (M.1 o 20))) M) fun M1 =>
      bI (fX10_endNow o M1) fun r3 M2 =>
      fX10_layRun_46  n o (pI M2 o 21 r3)
    else
      fX10_layRun_87  LF o (0 : Int32) (pI M o 22 (M.1 o 23))
def fX10_layRun_19  : Nat → Nat → Int32 → Mem → Option (Mem)
  | 0, _, _, _ => none
  | n + 1, o, x1, M =>
    if (8 : Int32) ≤ x1 then
      bI (fX10_endNow o M) fun r2 M1 =>
      fX10_layRun_46  LF o (pI M1 o 21 r2)
    else
      ck (ib x1 1608) <|
      fX10_layRun_19  n o (x1 + (1 : Int32)) (pI M (o + 7) (tn x1) (0 : Int32))
def fX10_layRun (o : Nat) (M : Mem) : Option (Mem) :=
  ck (ib (0 : Int32) 201) <|
  fX10_layRun_19  LF o (0 : Int32) (pI (pI (pI M o 20 (0 : Int32)) o 23 (0 : Int32)) (o + 8) (tn (0 : Int32)) (0 : Int32))
def fX10_has (o : Nat) (x1 : Int32) (M : Mem) : Option (Int32 × Mem) :=
  if ((M.1 o 25) &&& x1) = 0 then
    some ((0 : Int32), M)
  else
    some ((1 : Int32), M)
def fX10_tables (o : Nat) (M : Mem) : Option (Int32 × Mem) :=
  ck (ib (6 : Int32) 215) <|
  some ((M.1 (o + 1) (tn (6 : Int32))), M)
def fX10_rowsOf (o : Nat) (M : Mem) : Option (Int32 × Mem) :=
  ck (ib (0 : Int32) 215) <|
  some (((1 : Int32) <<< ((M.1 (o + 1) (tn (0 : Int32))) &&& 31)), M)
def fX10_asTold_17  : Nat → Nat → Int32 → Mem → Option (Mem)
  | 0, _, _, _ => none
  | n + 1, o, x1, M =>
    bI (fX10_tables o M) fun r2 M1 =>
    if r2 < x1 then
      some M1
    else
      ck (ib (((10 : Int32) + x1) - (1 : Int32)) 215) <|
      ck (ib x1 6) <|
      fX10_asTold_17  n o (x1 + (1 : Int32)) (pI M1 (o + 12) (tn x1) (M1.1 (o + 1) (tn (((10 : Int32) + x1) - (1 : Int32)))))
def fX10_asTold (o : Nat) (M : Mem) : Option (Mem) :=
  ck (ib (5 : Int32) 215) <|
  fX10_asTold_17  LF o (1 : Int32) (pI (pI M o 25 (M.1 (o + 1) (tn (5 : Int32)))) o 26 (0 : Int32))
def fX10_empties (o : Nat) (x1 : Int32) (M : Mem) : Option (Mem) :=
  ck (ib x1 8) <|
  ck (ib x1 8) <|
  ck (ib x1 8) <|
  ck (ib x1 8) <|
  some (pI (pI (pI (pI M (o + 17) (tn x1) (-1 : Int32)) (o + 18) (tn x1) (-1 : Int32)) (o + 19) (tn x1) (0 : Int32)) (o + 20) (tn x1) (0 : Int32))
def fX10_beginGuesser_84  : Nat → Nat → Int32 → Mem → Option (Mem)
  | 0, _, _, _ => none
  | n + 1, o, x1, M =>
    if (48 : Int32) ≤ x1 then
      some (pL (pI (pI (pI (pI M o 37 (8 : Int32)) o 38 (0 : Int32)) o 39 (4 : Int32)) o 40 (0 : Int32)) o 41 (0 : Int64))
    else
      ck (ib x1 48) <|
      fX10_beginGuesser_84  n o (x1 + (1 : Int32)) (pI M (o + 22) (tn x1) (0 : Int32))
def fX10_beginGuesser_58  : Nat → Nat → Int32 → Mem → Option (Mem)
  | 0, _, _, _ => none
  | n + 1, o, x1, M =>
    if (8 : Int32) ≤ x1 then
      fX10_beginGuesser_84  LF o (0 : Int32) M
    else
      bV (fX10_empties o x1 M) fun M1 =>
      ck (ib x1 8) <|
      fX10_beginGuesser_58  n o (x1 + (1 : Int32)) (pI M1 (o + 21) (tn x1) (0 : Int32))
def fX10_beginGuesser_37  : Nat → Nat → Int32 → Mem → Option (Mem)
  | 0, _, _, _ => none
  | n + 1, o, x1, M =>
    if (16 : Int32) ≤ x1 then
      fX10_beginGuesser_58  LF o (0 : Int32) M
    else
      ck (ib x1 16) <|
      fX10_beginGuesser_37  n o (x1 + (1 : Int32)) (pI M (o + 16) (tn x1) (1 : Int32))
def fX10_beginGuesser_2  : Nat → Nat → Int32 → Mem → Option (Mem)
  | 0, _, _, _ => none
  | n + 1, o, x1, M =>
    if (80 : Int32) ≤ x1 then
      fX10_beginGuesser_37  LF o (0 : Int32) M
    else
      ck (ib x1 80) <|
      ck (ib x1 80) <|
      ck (ib x1 80) <|
      fX10_beginGuesser_2  n o (x1 + (1 : Int32)) (pI (pI (pI M (o + 13) (tn x1) (-1 : Int32)) (o + 14) (tn x1) (0 : Int32)) (o + 15) (tn x1) (0 : Int32))
def fX10_beginGuesser (o : Nat) (M : Mem) : Option (Mem) :=
  fX10_beginGuesser_2  LF o (0 : Int32) M
def fX10_foldOf_34 (k5 : Nat → Int32 → Int32 → Int32 → Int32 → Mem → Option (Int32 × Mem)) (o : Nat) (x1 : Int32) (x2 : Int32) (x3 : Int32) (x4 : Int32) (M : Mem) : Option (Int32 × Mem) :=
  k5 o x1 x2 x3 (x4 + (1 : Int32)) M
def fX10_foldOf_5  : Nat → Nat → Int32 → Int32 → Int32 → Int32 → Mem → Option (Int32 × Mem)
  | 0, _, _, _, _, _, _ => none
  | n + 1, o, x1, x2, x3, x4, M =>
    if x1 ≤ x4 then
      some (x3, M)
    else
      if (lg_cmp (((M.2 o 41) >>> ((x4).toInt64 &&& 63)) &&& (1 : Int64)) (1 : Int64)) = 0 then
        ck (!decide (x2 = 0)) <|
        fX10_foldOf_34 (fX10_foldOf_5  n) o x1 x2 (x3 ^^^ ((1 : Int32) <<< ((irm x4 x2) &&& 31))) x4 M
      else
        fX10_foldOf_34 (fX10_foldOf_5  n) o x1 x2 x3 x4 M
def fX10_foldOf (o : Nat) (x1 : Int32) (x2 : Int32) (M : Mem) : Option (Int32 × Mem) :=
  fX10_foldOf_5  LF o x1 x2 (0 : Int32) (0 : Int32) M
def fX10_indexOf (o : Nat) (x1 : Int32) (x2 : Int32) (M : Mem) : Option (Int32 × Mem) :=
  ck (ib (0 : Int32) 215) <|
  ck (ib x1 6) <|
  bI (fX10_foldOf o (M.1 (o + 12) (tn x1)) (M.1 (o + 1) (tn (0 : Int32))) M) fun r2 M1 =>
  bI (fX10_rowsOf o M1) fun r4 M3 =>
  some (((((x2 ^^^ (x2 >>> ((M.1 (o + 1) (tn (0 : Int32))) &&& 31))) ^^^ r2) ^^^ x1) &&& (r4 - (1 : Int32))), M3)
def fX10_tagOf (o : Nat) (x1 : Int32) (x2 : Int32) (M : Mem) : Option (Int32 × Mem) :=
  ck (ib (1 : Int32) 215) <|
  ck (ib x1 6) <|
  bI (fX10_foldOf o (M.1 (o + 12) (tn x1)) (M.1 (o + 1) (tn (1 : Int32))) M) fun r2 M1 =>
  ck (ib x1 6) <|
  bI (fX10_foldOf o (M1.1 (o + 12) (tn x1)) ((M.1 (o + 1) (tn (1 : Int32))) - (1 : Int32)) M1) fun r4 M3 =>
  some ((((x2 &&& (((1 : Int32) <<< ((M.1 (o + 1) (tn (1 : Int32))) &&& 31)) - (1 : Int32))) ^^^ r2) ^^^ ((2 : Int32) * r4)), M3)
def fX10_saysOf (o : Nat) (x1 : Int32) (M : Mem) : Option (Int32 × Mem) :=
  if x1 = 0 then
    ck (ib (irm (M.1 o 44) (16 : Int32)) 16) <|
    if (M.1 (o + 16) (tn (irm (M.1 o 44) (16 : Int32)))) < (2 : Int32) then
      some ((0 : Int32), M)
    else
      some ((1 : Int32), M)
  else
    ck (ib x1 6) <|
    ck (ib (M.1 (o + 23) (tn x1)) 80) <|
    if (M.1 (o + 14) (tn (M.1 (o + 23) (tn x1)))) < 0 then
      some ((0 : Int32), M)
    else
      some ((1 : Int32), M)
def fX10_matches (o : Nat) (x1 : Int32) (M : Mem) : Option (Int32 × Mem) :=
  if x1 = (M.1 o 26) then
    some ((0 : Int32), M)
  else
    ck (ib x1 6) <|
    ck (ib (M.1 (o + 23) (tn x1)) 80) <|
    ck (ib x1 6) <|
    if (M.1 (o + 13) (tn (M.1 (o + 23) (tn x1)))) = (M.1 (o + 24) (tn x1)) then
      some ((1 : Int32), M)
    else
      some ((0 : Int32), M)
def fX10_matching_4  : Nat → Nat → Int32 → Mem → Option (Int32 × Mem)
  | 0, _, _, _ => none
  | n + 1, o, x2, M =>
    if x2 ≤ 0 then
      some (x2, M)
    else
      bI (fX10_matches o x2 M) fun r2 M1 =>
      if r2 = 0 then
        fX10_matching_4  n o (x2 + (-1 : Int32)) M1
      else
        some (x2, M1)
def fX10_matching (o : Nat) (x1 : Int32) (M : Mem) : Option (Int32 × Mem) :=
  fX10_matching_4  LF o (x1 - (1 : Int32)) M
def fX10_askTables_163  (o : Nat) (so0 : Nat) (sx1 : Int32) (M : Mem) : Option (Mem) :=
  ck (isB sx1) <|
  if ((pI M so0 49 sx1).1 o 49) = 0 then
    some (pI (pI M so0 49 sx1) o 50 ((pI M so0 49 sx1).1 o 47))
  else
    bI (fX10_has o (4 : Int32) (pI M so0 49 sx1)) fun r2 M1 =>
    if r2 = 0 then
      some (pI M1 o 50 (M1.1 o 47))
    else
      if (M1.1 o 37) ≤ (7 : Int32) then
        some (pI M1 o 50 (M1.1 o 47))
      else
        some (pI M1 o 50 (M1.1 o 48))
def fX10_askTables_162  (o : Nat) (so0 : Nat) (M : Mem) : Option (Mem) :=
  fX10_askTables_163  o so0 (0 : Int32) M
def fX10_askTables_87  (o : Nat) (so0 : Nat) (sx1 : Int32) (M : Mem) : Option (Mem) :=
  bI (fX10_saysOf o ((pI M so0 46 sx1).1 o 45) (pI M so0 46 sx1)) fun r2 M1 =>
  bI (fX10_saysOf o ((pI M1 o 47 r2).1 o 46) (pI M1 o 47 r2)) fun r4 M3 =>
  ck (ib ((pI M3 o 48 r4).1 o 45) 6) <|
  if ((pI M3 o 48 r4).1 o 45) ≤ 0 then
    fX10_askTables_162  o o (pI M3 o 48 r4)
  else
    ck (ib ((pI M3 o 48 r4).1 (o + 23) (tn ((pI M3 o 48 r4).1 o 45))) 80) <|
    bI (fX10_in (((pI M3 o 48 r4).1 (o + 14) (tn ((pI M3 o 48 r4).1 (o + 23) (tn ((pI M3 o 48 r4).1 o 45)))))).toInt64 (-1 : Int64) (0 : Int64) (pI M3 o 48 r4)) fun r6 M5 =>
    if r6 = 0 then
      fX10_askTables_162  o o M5
    else
      ck (ib ((pI M3 o 48 r4).1 (o + 23) (tn ((pI M3 o 48 r4).1 o 45))) 80) <|
      if (M5.1 (o + 15) (tn ((pI M3 o 48 r4).1 (o + 23) (tn ((pI M3 o 48 r4).1 o 45))))) = 0 then
        fX10_askTables_163  o o (1 : Int32) M5
      else
        fX10_askTables_162  o o M5
def fX10_askTables_2  : Nat → Nat → Int32 → Mem → Option (Mem)
  | 0, _, _, _ => none
  | n + 1, o, x1, M =>
    bI (fX10_tables o M) fun r2 M1 =>
    if r2 < x1 then
      bI (fX10_tables o M1) fun r4 M3 =>
      bI (fX10_matching o (r4 + (1 : Int32)) M3) fun r6 M5 =>
      if ((pI M5 o 45 r6).1 o 45) = 0 then
        fX10_askTables_87  o o (0 : Int32) (pI M5 o 45 r6)
      else
        bI (fX10_matching o ((pI M5 o 45 r6).1 o 45) (pI M5 o 45 r6)) fun r8 M7 =>
        fX10_askTables_87  o o r8 M7
    else
      bI (fX10_indexOf o x1 (M1.1 o 44) M1) fun r10 M9 =>
      ck (ib x1 6) <|
      bI (fX10_tagOf o x1 ((pI M9 (o + 23) (tn x1) (((16 : Int32) * (x1 - (1 : Int32))) + r10)).1 o 44) (pI M9 (o + 23) (tn x1) (((16 : Int32) * (x1 - (1 : Int32))) + r10))) fun r12 M11 =>
      ck (ib x1 6) <|
      fX10_askTables_2  n o (x1 + (1 : Int32)) (pI M11 (o + 24) (tn x1) r12)
def fX10_askTables (o : Nat) (M : Mem) : Option (Mem) :=
  fX10_askTables_2  LF o (1 : Int32) M
def fX10_loopSays (o : Nat) (M : Mem) : Option (Int32 × Mem) :=
  bI (fX10_has o (1 : Int32) M) fun r2 M1 =>
  if r2 = 0 then
    some ((-1 : Int32), M1)
  else
    ck (ib (irm (M.1 o 44) (8 : Int32)) 8) <|
    if (M1.1 (o + 17) (tn (irm (M.1 o 44) (8 : Int32)))) = (M1.1 o 44) then
      ck (ib (irm (M.1 o 44) (8 : Int32)) 8) <|
      if (M1.1 (o + 20) (tn (irm (M.1 o 44) (8 : Int32)))) = (3 : Int32) then
        ck (ib (irm (M.1 o 44) (8 : Int32)) 8) <|
        ck (ib (irm (M.1 o 44) (8 : Int32)) 8) <|
        if (M1.1 (o + 18) (tn (irm (M.1 o 44) (8 : Int32)))) ≤ (M1.1 (o + 19) (tn (irm (M.1 o 44) (8 : Int32)))) then
          some ((0 : Int32), M1)
        else
          some ((1 : Int32), M1)
      else
        some ((-1 : Int32), M1)
    else
      some ((-1 : Int32), M1)
def fX10_askCorrector_91  : Nat → Nat → Int32 → Mem → Option (Mem)
  | 0, _, _, _ => none
  | n + 1, o, x1, M =>
    if (3 : Int32) ≤ x1 then
      if (M.1 o 52) ≤ 0 then
        some (pI M o 53 (0 : Int32))
      else
        some (pI M o 53 (1 : Int32))
    else
      ck (ib x1 3) <|
      ck (ib (M.1 (o + 25) (tn x1)) 48) <|
      fX10_askCorrector_91  n o (x1 + (1 : Int32)) (pI M o 52 ((M.1 o 52) + (((2 : Int32) * (M.1 (o + 22) (tn (M.1 (o + 25) (tn x1))))) + (1 : Int32))))
def fX10_askCorrector_86  (o : Nat) (so0 : Nat) (sx1 : Int32) (M : Mem) : Option (Mem) :=
  fX10_askCorrector_91  LF o (0 : Int32) (pI M so0 52 sx1)
def fX10_askCorrector (o : Nat) (M : Mem) : Option (Mem) :=
  ck (ib (0 : Int32) 3) <|
  ck (ib (1 : Int32) 3) <|
  bI (fX10_foldOf o (12 : Int32) (4 : Int32) (pI (pI M (o + 25) (tn (0 : Int32)) (((2 : Int32) * (irm (M.1 o 44) (8 : Int32))) + (M.1 o 50))) (o + 25) (tn (1 : Int32)) ((16 : Int32) + (irm (((pI M (o + 25) (tn (0 : Int32)) (((2 : Int32) * (irm (M.1 o 44) (8 : Int32))) + (M.1 o 50))).1 o 44) ^^^ ((((pI M (o + 25) (tn (0 : Int32)) (((2 : Int32) * (irm (M.1 o 44) (8 : Int32))) + (M.1 o 50))).2 o 41) &&& (15 : Int64))).toInt32) (16 : Int32))))) fun r2 M1 =>
  ck (ib (2 : Int32) 3) <|
  if ((pI M1 (o + 25) (tn (2 : Int32)) ((32 : Int32) + (irm (((pI (pI M (o + 25) (tn (0 : Int32)) (((2 : Int32) * (irm (M.1 o 44) (8 : Int32))) + (M.1 o 50))) (o + 25) (tn (1 : Int32)) ((16 : Int32) + (irm (((pI M (o + 25) (tn (0 : Int32)) (((2 : Int32) * (irm (M.1 o 44) (8 : Int32))) + (M.1 o 50))).1 o 44) ^^^ ((((pI M (o + 25) (tn (0 : Int32)) (((2 : Int32) * (irm (M.1 o 44) (8 : Int32))) + (M.1 o 50))).2 o 41) &&& (15 : Int64))).toInt32) (16 : Int32)))).1 o 44) ^^^ r2) (16 : Int32)))).1 o 50) = (1 : Int32) then
    fX10_askCorrector_86  o o (6 : Int32) (pI M1 (o + 25) (tn (2 : Int32)) ((32 : Int32) + (irm (((pI (pI M (o + 25) (tn (0 : Int32)) (((2 : Int32) * (irm (M.1 o 44) (8 : Int32))) + (M.1 o 50))) (o + 25) (tn (1 : Int32)) ((16 : Int32) + (irm (((pI M (o + 25) (tn (0 : Int32)) (((2 : Int32) * (irm (M.1 o 44) (8 : Int32))) + (M.1 o 50))).1 o 44) ^^^ ((((pI M (o + 25) (tn (0 : Int32)) (((2 : Int32) * (irm (M.1 o 44) (8 : Int32))) + (M.1 o 50))).2 o 41) &&& (15 : Int64))).toInt32) (16 : Int32)))).1 o 44) ^^^ r2) (16 : Int32))))
  else
    fX10_askCorrector_86  o o (-6 : Int32) (pI M1 (o + 25) (tn (2 : Int32)) ((32 : Int32) + (irm (((pI (pI M (o + 25) (tn (0 : Int32)) (((2 : Int32) * (irm (M.1 o 44) (8 : Int32))) + (M.1 o 50))) (o + 25) (tn (1 : Int32)) ((16 : Int32) + (irm (((pI M (o + 25) (tn (0 : Int32)) (((2 : Int32) * (irm (M.1 o 44) (8 : Int32))) + (M.1 o 50))).1 o 44) ^^^ ((((pI M (o + 25) (tn (0 : Int32)) (((2 : Int32) * (irm (M.1 o 44) (8 : Int32))) + (M.1 o 50))).2 o 41) &&& (15 : Int64))).toInt32) (16 : Int32)))).1 o 44) ^^^ r2) (16 : Int32))))
def fX10_ask_72  (o : Nat) (M : Mem) : Option (Mem) :=
  bI (fX10_loopSays o M) fun r2 M1 =>
  if r2 = (-1 : Int32) then
    some M1
  else
    some (pI (pI M1 o 55 (1 : Int32)) o 54 r2)
def fX10_ask (o : Nat) (x1 : Int32) (M : Mem) : Option (Mem) :=
  bV (fX10_askTables o (pI M o 44 x1)) fun M1 =>
  bV (fX10_askCorrector o M1) fun M2 =>
  bI (fX10_has o (2 : Int32) (pI (pI M2 o 55 (0 : Int32)) o 54 ((pI M2 o 55 (0 : Int32)).1 o 50))) fun r4 M3 =>
  if r4 = 0 then
    fX10_ask_72  o M3
  else
    if (M3.1 o 53) = (M3.1 o 50) then
      fX10_ask_72  o M3
    else
      if (if 0 ≤ (M3.1 o 52) then (M3.1 o 52) else 0 - (M3.1 o 52)) < (M3.1 o 39) then
        fX10_ask_72  o M3
      else
        fX10_ask_72  o (pI (pI M3 o 55 (2 : Int32)) o 54 ((pI M3 o 55 (2 : Int32)).1 o 53))
def fX10_learnLoop_202  (o : Nat) (x2 : Int32) (sc0 : Nat) (sx1 : Int32) (sx2 : Int32) (M : Mem) : Option (Mem) :=
  ck (ib sx1 8) <|
  ck (ib x2 8) <|
  ck (ib x2 8) <|
  ck (ib x2 8) <|
  some (pI (pI (pI M sc0 (tn sx1) sx2) (o + 18) (tn x2) ((pI M sc0 (tn sx1) sx2).1 (o + 19) (tn x2))) (o + 19) (tn x2) (0 : Int32))
def fX10_learnLoop_176  (o : Nat) (x2 : Int32) (sx0 : Int32) (M : Mem) : Option (Mem) :=
  if sx0 = 0 then
    fX10_learnLoop_202  o x2 (o + 20) x2 (0 : Int32) M
  else
    ck (ib x2 8) <|
    fX10_learnLoop_202  o x2 (o + 20) x2 (if ((M.1 (o + 20) (tn x2)) + (1 : Int32)) < (3 : Int32) then ((M.1 (o + 20) (tn x2)) + (1 : Int32)) else (3 : Int32)) M
def fX10_learnLoop_129  (o : Nat) (x2 : Int32) (M : Mem) : Option (Mem) :=
  ck (ib x2 8) <|
  if (60 : Int32) ≤ (M.1 (o + 19) (tn x2)) then
    bV (fX10_empties o x2 M) fun M1 =>
    ck (ib x2 8) <|
    some (pI M1 (o + 21) (tn x2) (0 : Int32))
  else
    some M
def fX10_learnLoop (o : Nat) (x1 : Int32) (M : Mem) : Option (Mem) :=
  ck (ib (irm (M.1 o 44) (8 : Int32)) 8) <|
  if (M.1 (o + 17) (tn (irm (M.1 o 44) (8 : Int32)))) = (M.1 o 44) then
    if x1 = (1 : Int32) then
      ck (ib (irm (M.1 o 44) (8 : Int32)) 8) <|
      ck (ib (irm (M.1 o 44) (8 : Int32)) 8) <|
      ck (ib (irm (M.1 o 44) (8 : Int32)) 8) <|
      if ((pI M (o + 19) (tn (irm (M.1 o 44) (8 : Int32))) ((M.1 (o + 19) (tn (irm (M.1 o 44) (8 : Int32)))) + (1 : Int32))).1 (o + 18) (tn (irm (M.1 o 44) (8 : Int32)))) = (-1 : Int32) then
        fX10_learnLoop_129  o (irm (M.1 o 44) (8 : Int32)) (pI M (o + 19) (tn (irm (M.1 o 44) (8 : Int32))) ((M.1 (o + 19) (tn (irm (M.1 o 44) (8 : Int32)))) + (1 : Int32)))
      else
        ck (ib (irm (M.1 o 44) (8 : Int32)) 8) <|
        ck (ib (irm (M.1 o 44) (8 : Int32)) 8) <|
        if ((pI M (o + 19) (tn (irm (M.1 o 44) (8 : Int32))) ((M.1 (o + 19) (tn (irm (M.1 o 44) (8 : Int32)))) + (1 : Int32))).1 (o + 19) (tn (irm (M.1 o 44) (8 : Int32)))) ≤ ((pI M (o + 19) (tn (irm (M.1 o 44) (8 : Int32))) ((M.1 (o + 19) (tn (irm (M.1 o 44) (8 : Int32)))) + (1 : Int32))).1 (o + 18) (tn (irm (M.1 o 44) (8 : Int32)))) then
          fX10_learnLoop_129  o (irm (M.1 o 44) (8 : Int32)) (pI M (o + 19) (tn (irm (M.1 o 44) (8 : Int32))) ((M.1 (o + 19) (tn (irm (M.1 o 44) (8 : Int32)))) + (1 : Int32)))
        else
          ck (ib (irm (M.1 o 44) (8 : Int32)) 8) <|
          ck (ib (irm (M.1 o 44) (8 : Int32)) 8) <|
          fX10_learnLoop_129  o (irm (M.1 o 44) (8 : Int32)) (pI (pI (pI M (o + 19) (tn (irm (M.1 o 44) (8 : Int32))) ((M.1 (o + 19) (tn (irm (M.1 o 44) (8 : Int32)))) + (1 : Int32))) (o + 18) (tn (irm (M.1 o 44) (8 : Int32))) (-1 : Int32)) (o + 20) (tn (irm (M.1 o 44) (8 : Int32))) (0 : Int32))
    else
      ck (ib (irm (M.1 o 44) (8 : Int32)) 8) <|
      ck (ib (irm (M.1 o 44) (8 : Int32)) 8) <|
      if (M.1 (o + 19) (tn (irm (M.1 o 44) (8 : Int32)))) = (M.1 (o + 18) (tn (irm (M.1 o 44) (8 : Int32)))) then
        fX10_learnLoop_176  o (irm (M.1 o 44) (8 : Int32)) (1 : Int32) M
      else
        fX10_learnLoop_176  o (irm (M.1 o 44) (8 : Int32)) (0 : Int32) M
  else
    if (M.1 o 54) = x1 then
      some M
    else
      ck (ib (irm (M.1 o 44) (8 : Int32)) 8) <|
      if (M.1 (o + 21) (tn (irm (M.1 o 44) (8 : Int32)))) ≤ 0 then
        bV (fX10_empties o (irm (M.1 o 44) (8 : Int32)) M) fun M1 =>
        ck (ib (irm (M.1 o 44) (8 : Int32)) 8) <|
        ck (ib (irm (M.1 o 44) (8 : Int32)) 8) <|
        some (pI (pI M1 (o + 17) (tn (irm (M.1 o 44) (8 : Int32))) (M1.1 o 44)) (o + 21) (tn (irm (M.1 o 44) (8 : Int32))) (3 : Int32))
      else
        ck (ib (irm (M.1 o 44) (8 : Int32)) 8) <|
        ck (ib (irm (M.1 o 44) (8 : Int32)) 8) <|
        some (pI M (o + 21) (tn (irm (M.1 o 44) (8 : Int32))) ((M.1 (o + 21) (tn (irm (M.1 o 44) (8 : Int32)))) - (1 : Int32)))
def fX10_learnCorrector_67  : Nat → Nat → Int32 → Int32 → Mem → Option (Mem)
  | 0, _, _, _, _ => none
  | n + 1, o, x1, x2, M =>
    if (3 : Int32) ≤ x2 then
      some M
    else
      ck (ib x2 3) <|
      ck (ib x2 3) <|
      ck (ib (M.1 (o + 25) (tn x2)) 48) <|
      bI (fX10_between (((M.1 (o + 22) (tn (M.1 (o + 25) (tn x2)))) + ((2 : Int32) * x1)) - (1 : Int32)) (-8 : Int32) (7 : Int32) M) fun r2 M1 =>
      ck (ib (M.1 (o + 25) (tn x2)) 48) <|
      fX10_learnCorrector_67  n o x1 (x2 + (1 : Int32)) (pI M1 (o + 22) (tn (M.1 (o + 25) (tn x2))) r2)
def fX10_learnCorrector_65  (o : Nat) (x1 : Int32) (M : Mem) : Option (Mem) :=
  fX10_learnCorrector_67  LF o x1 (0 : Int32) M
def fX10_learnCorrector_44  (o : Nat) (x1 : Int32) (M : Mem) : Option (Mem) :=
  if (M.1 o 53) = x1 then
    if (if 0 ≤ (M.1 o 52) then (M.1 o 52) else 0 - (M.1 o 52)) < (12 : Int32) then
      fX10_learnCorrector_65  o x1 M
    else
      some M
  else
    fX10_learnCorrector_65  o x1 M
def fX10_learnCorrector_35  (o : Nat) (x1 : Int32) (so0 : Nat) (sx1 : Int32) (M : Mem) : Option (Mem) :=
  bI (fX10_between sx1 (1 : Int32) (15 : Int32) M) fun r2 M1 =>
  fX10_learnCorrector_44  o x1 (pI M1 so0 39 r2)
def fX10_learnCorrector (o : Nat) (x1 : Int32) (M : Mem) : Option (Mem) :=
  if (M.1 o 53) = (M.1 o 50) then
    fX10_learnCorrector_44  o x1 M
  else
    if (M.1 o 53) = x1 then
      fX10_learnCorrector_35  o x1 o ((M.1 o 39) - (1 : Int32)) M
    else
      fX10_learnCorrector_35  o x1 o ((M.1 o 39) + (1 : Int32)) M
def fX10_learnCount (o : Nat) (x1 : Int32) (x2 : Int32) (M : Mem) : Option (Mem) :=
  if x1 = 0 then
    ck (ib (irm (M.1 o 44) (16 : Int32)) 16) <|
    bI (fX10_between ((M.1 (o + 16) (tn (irm (M.1 o 44) (16 : Int32)))) + (((2 : Int32) * x2) - (1 : Int32))) (0 : Int32) (3 : Int32) M) fun r4 M3 =>
    ck (ib (irm (M.1 o 44) (16 : Int32)) 16) <|
    some (pI M3 (o + 16) (tn (irm (M.1 o 44) (16 : Int32))) r4)
  else
    ck (ib x1 6) <|
    ck (ib x1 6) <|
    ck (ib (M.1 (o + 23) (tn x1)) 80) <|
    bI (fX10_between ((M.1 (o + 14) (tn (M.1 (o + 23) (tn x1)))) + (((2 : Int32) * x2) - (1 : Int32))) (-4 : Int32) (3 : Int32) M) fun r2 M1 =>
    ck (ib (M.1 (o + 23) (tn x1)) 80) <|
    some (pI M1 (o + 14) (tn (M.1 (o + 23) (tn x1))) r2)
def fX10_halve_2  : Nat → Nat → Int32 → Mem → Option (Mem)
  | 0, _, _, _ => none
  | n + 1, o, x1, M =>
    if (80 : Int32) ≤ x1 then
      some (pI (pI M o 38 (0 : Int32)) o 40 (((pI M o 38 (0 : Int32)).1 o 40) + (1 : Int32)))
    else
      ck (ib x1 80) <|
      ck (ib x1 80) <|
      fX10_halve_2  n o (x1 + (1 : Int32)) (pI M (o + 15) (tn x1) ((M.1 (o + 15) (tn x1)) / (2 : Int32)))
def fX10_halve (o : Nat) (M : Mem) : Option (Mem) :=
  fX10_halve_2  LF o (0 : Int32) M
def fX10_takeRow_144 (k113 : Nat → Int32 → Mem → Option (Mem)) (o : Nat) (x3 : Int32) (M : Mem) : Option (Mem) :=
  k113 o (x3 + (1 : Int32)) M
def fX10_takeRow_113  : Nat → Nat → Int32 → Mem → Option (Mem)
  | 0, _, _, _ => none
  | n + 1, o, x3, M =>
    bI (fX10_tables o M) fun r2 M1 =>
    if r2 < x3 then
      ck (ib (2 : Int32) 215) <|
      if ((pI M1 o 38 ((M1.1 o 38) + (1 : Int32))).1 o 38) = ((pI M1 o 38 ((M1.1 o 38) + (1 : Int32))).1 (o + 1) (tn (2 : Int32))) then
        bV (fX10_halve o (pI M1 o 38 ((M1.1 o 38) + (1 : Int32)))) fun M3 =>
        some M3
      else
        some (pI M1 o 38 ((M1.1 o 38) + (1 : Int32)))
    else
      if x3 = (M1.1 o 26) then
        fX10_takeRow_144 (fX10_takeRow_113  n) o x3 M1
      else
        ck (ib x3 6) <|
        ck (ib (M1.1 (o + 23) (tn x3)) 80) <|
        ck (ib (M1.1 (o + 23) (tn x3)) 80) <|
        fX10_takeRow_144 (fX10_takeRow_113  n) o x3 (pI M1 (o + 15) (tn (M1.1 (o + 23) (tn x3))) ((M1.1 (o + 15) (tn (M1.1 (o + 23) (tn x3)))) - (1 : Int32)))
def fX10_takeRow_63  (o : Nat) (x1 : Int32) (x3 : Int32) (x4 : Int32) (M : Mem) : Option (Mem) :=
  ck (ib x3 6) <|
  ck (ib x4 80) <|
  ck (ib x4 80) <|
  ck (ib x4 80) <|
  some (pI (pI (pI M (o + 13) (tn x4) (M.1 (o + 24) (tn x3))) (o + 14) (tn x4) (x1 - (1 : Int32))) (o + 15) (tn x4) (0 : Int32))
def fX10_takeRow_95 (k9 : Nat → Int32 → Int32 → Int32 → Mem → Option (Mem)) (o : Nat) (x1 : Int32) (x2 : Int32) (x3 : Int32) (M : Mem) : Option (Mem) :=
  k9 o x1 x2 (x3 + (1 : Int32)) M
def fX10_takeRow_9  : Nat → Nat → Int32 → Int32 → Int32 → Mem → Option (Mem)
  | 0, _, _, _, _, _ => none
  | n + 1, o, x1, x2, x3, M =>
    bI (fX10_tables o M) fun r2 M1 =>
    if r2 < x3 then
      if x2 = 0 then
        some M1
      else
        fX10_takeRow_113  LF o ((M1.1 o 45) + (1 : Int32)) M1
    else
      if x3 = (M1.1 o 26) then
        fX10_takeRow_95 (fX10_takeRow_9  n) o x1 x2 x3 M1
      else
        ck (ib x3 6) <|
        ck (ib (M1.1 (o + 23) (tn x3)) 80) <|
        if (M1.1 (o + 13) (tn (M1.1 (o + 23) (tn x3)))) = (-1 : Int32) then
          fX10_takeRow_63  o x1 x3 (M1.1 (o + 23) (tn x3)) M1
        else
          ck (ib (M1.1 (o + 23) (tn x3)) 80) <|
          if (M1.1 (o + 15) (tn (M1.1 (o + 23) (tn x3)))) ≤ 0 then
            fX10_takeRow_63  o x1 x3 (M1.1 (o + 23) (tn x3)) M1
          else
            fX10_takeRow_95 (fX10_takeRow_9  n) o x1 (x2 + (1 : Int32)) x3 M1
def fX10_takeRow (o : Nat) (x1 : Int32) (M : Mem) : Option (Mem) :=
  fX10_takeRow_9  LF o x1 (0 : Int32) ((M.1 o 45) + (1 : Int32)) M
def fX10_learn_192  (o : Nat) (x1 : Int32) (M : Mem) : Option (Mem) :=
  some (pL M o 41 ((((M.2 o 41) <<< (((1 : Int32)).toInt64 &&& 63)) ||| (x1).toInt64) &&& (1099511627775 : Int64)))
def fX10_learn_179  (o : Nat) (x1 : Int32) (M : Mem) : Option (Mem) :=
  if (M.1 o 50) = x1 then
    fX10_learn_192  o x1 M
  else
    bV (fX10_takeRow o x1 M) fun M1 =>
    fX10_learn_192  o x1 M1
def fX10_learn_154  (o : Nat) (x1 : Int32) (M : Mem) : Option (Mem) :=
  bV (fX10_learnCount o (M.1 o 45) x1 M) fun M1 =>
  if (M1.1 o 49) = 0 then
    fX10_learn_179  o x1 M1
  else
    bV (fX10_learnCount o (M1.1 o 46) x1 M1) fun M2 =>
    fX10_learn_179  o x1 M2
def fX10_learn_148  (o : Nat) (x1 : Int32) (sc0 : Nat) (sx1 : Int32) (sx2 : Int32) (M : Mem) : Option (Mem) :=
  bI (fX10_between sx2 (0 : Int32) (3 : Int32) M) fun r2 M1 =>
  ck (ib sx1 80) <|
  fX10_learn_154  o x1 (pI M1 sc0 (tn sx1) r2)
def fX10_learn_95  (o : Nat) (x1 : Int32) (x2 : Int32) (M : Mem) : Option (Mem) :=
  ck (ib (M.1 o 45) 6) <|
  if (M.1 o 45) ≤ 0 then
    fX10_learn_154  o x1 M
  else
    if x2 = 0 then
      fX10_learn_154  o x1 M
    else
      if (M.1 o 47) = x1 then
        ck (ib (M.1 (o + 23) (tn (M.1 o 45))) 80) <|
        fX10_learn_148  o x1 (o + 15) (M.1 (o + 23) (tn (M.1 o 45))) ((M.1 (o + 15) (tn (M.1 (o + 23) (tn (M.1 o 45))))) + (1 : Int32)) M
      else
        ck (ib (M.1 (o + 23) (tn (M.1 o 45))) 80) <|
        fX10_learn_148  o x1 (o + 15) (M.1 (o + 23) (tn (M.1 o 45))) ((M.1 (o + 15) (tn (M.1 (o + 23) (tn (M.1 o 45))))) - (1 : Int32)) M
def fX10_learn_86  (o : Nat) (x1 : Int32) (x2 : Int32) (so0 : Nat) (sx1 : Int32) (M : Mem) : Option (Mem) :=
  bI (fX10_between sx1 (0 : Int32) (15 : Int32) M) fun r2 M1 =>
  fX10_learn_95  o x1 x2 (pI M1 so0 37 r2)
def fX10_learn_42  (o : Nat) (x1 : Int32) (sx0 : Int32) (M : Mem) : Option (Mem) :=
  bI (fX10_has o (4 : Int32) M) fun r2 M1 =>
  if r2 = 0 then
    fX10_learn_95  o x1 sx0 M1
  else
    if (M1.1 o 49) = 0 then
      fX10_learn_95  o x1 sx0 M1
    else
      if sx0 = 0 then
        fX10_learn_95  o x1 sx0 M1
      else
        if (M1.1 o 48) = x1 then
          fX10_learn_86  o x1 sx0 o ((M1.1 o 37) + (1 : Int32)) M1
        else
          fX10_learn_86  o x1 sx0 o ((M1.1 o 37) - (1 : Int32)) M1
def fX10_learn_26  (o : Nat) (x1 : Int32) (M : Mem) : Option (Mem) :=
  if (M.1 o 47) = (M.1 o 48) then
    fX10_learn_42  o x1 (0 : Int32) M
  else
    fX10_learn_42  o x1 (1 : Int32) M
def fX10_learn_13  (o : Nat) (x1 : Int32) (M : Mem) : Option (Mem) :=
  bI (fX10_has o (2 : Int32) M) fun r2 M1 =>
  if r2 = 0 then
    fX10_learn_26  o x1 M1
  else
    bV (fX10_learnCorrector o x1 M1) fun M3 =>
    fX10_learn_26  o x1 M3
def fX10_learn (o : Nat) (x1 : Int32) (M : Mem) : Option (Mem) :=
  bI (fX10_has o (1 : Int32) M) fun r2 M1 =>
  if r2 = 0 then
    fX10_learn_13  o x1 M1
  else
    bV (fX10_learnLoop o x1 M1) fun M3 =>
    fX10_learn_13  o x1 M3
def fX10_play_68 (k6 : Nat → Int32 → Int32 → Mem → Option (Mem)) (o : Nat) (x1 : Int32) (x2 : Int32) (sc0 : Nat) (sx1 : Int32) (sx2 : Int32) (M : Mem) : Option (Mem) :=
  ck (ib sx1 240) <|
  ck (ib x2 240) <|
  ck (ib x2 240) <|
  ck (ib x2 240) <|
  bV (fX10_learn o ((pI (pI (pI M sc0 (tn sx1) sx2) (o + 30) (tn x2) ((pI M sc0 (tn sx1) sx2).1 o 50)) (o + 31) (tn x2) ((pI (pI M sc0 (tn sx1) sx2) (o + 30) (tn x2) ((pI M sc0 (tn sx1) sx2).1 o 50)).1 o 55)).1 (o + 10) (tn x2)) (pI (pI (pI M sc0 (tn sx1) sx2) (o + 30) (tn x2) ((pI M sc0 (tn sx1) sx2).1 o 50)) (o + 31) (tn x2) ((pI (pI M sc0 (tn sx1) sx2) (o + 30) (tn x2) ((pI M sc0 (tn sx1) sx2).1 o 50)).1 o 55))) fun M1 =>
  k6 o x1 (x2 + (1 : Int32)) M1
def fX10_play_6  : Nat → Nat → Int32 → Int32 → Mem → Option (Mem)
  | 0, _, _, _, _ => none
  | n + 1, o, x1, x2, M =>
    if x1 ≤ x2 then
      some M
    else
      ck (ib x2 240) <|
      bV (fX10_ask o (M.1 (o + 9) (tn x2)) M) fun M1 =>
      ck (ib x2 240) <|
      ck (ib x2 240) <|
      ck (ib x2 240) <|
      if ((pI (pI (pI M1 (o + 26) (tn x2) (M1.1 o 54)) (o + 27) (tn x2) ((pI M1 (o + 26) (tn x2) (M1.1 o 54)).1 o 45)) (o + 28) (tn x2) ((pI (pI M1 (o + 26) (tn x2) (M1.1 o 54)) (o + 27) (tn x2) ((pI M1 (o + 26) (tn x2) (M1.1 o 54)).1 o 45)).1 o 46)).1 o 49) = 0 then
        fX10_play_68 (fX10_play_6  n) o x1 x2 (o + 29) x2 (0 : Int32) (pI (pI (pI M1 (o + 26) (tn x2) (M1.1 o 54)) (o + 27) (tn x2) ((pI M1 (o + 26) (tn x2) (M1.1 o 54)).1 o 45)) (o + 28) (tn x2) ((pI (pI M1 (o + 26) (tn x2) (M1.1 o 54)) (o + 27) (tn x2) ((pI M1 (o + 26) (tn x2) (M1.1 o 54)).1 o 45)).1 o 46))
      else
        fX10_play_68 (fX10_play_6  n) o x1 x2 (o + 29) x2 (1 : Int32) (pI (pI (pI M1 (o + 26) (tn x2) (M1.1 o 54)) (o + 27) (tn x2) ((pI M1 (o + 26) (tn x2) (M1.1 o 54)).1 o 45)) (o + 28) (tn x2) ((pI (pI M1 (o + 26) (tn x2) (M1.1 o 54)) (o + 27) (tn x2) ((pI M1 (o + 26) (tn x2) (M1.1 o 54)).1 o 45)).1 o 46))
def fX10_play (o : Nat) (x1 : Int32) (M : Mem) : Option (Mem) :=
  bV (fX10_beginGuesser o M) fun M1 =>
  fX10_play_6  LF o x1 (0 : Int32) M1
def fX10_lays (o : Nat) (M : Mem) : Option (Int32 × Mem) :=
  bV (fX10_layRun o M) fun M1 =>
  bV (fX10_asTold o M1) fun M2 =>
  bI (fX10_isProgram o M2) fun r4 M3 =>
  ck (isB r4) <|
  some (r4, M3)
def fX10_asks (o : Nat) (M : Mem) : Option (Int32 × Mem) :=
  bI (fX10_lays o M) fun r2 M1 =>
  if r2 = 0 then
    ck (isB r2) <|
    some (r2, M1)
  else
    bV (fX10_play o (M1.1 o 23) M1) fun M3 =>
    ck (isB r2) <|
    some (r2, M3)
def fX10_asksAt (o : Nat) (x1 : Int32) (M : Mem) : Option (Int32 × Mem) :=
  bI (fX10_lays o M) fun r2 M1 =>
  if r2 = 0 then
    some ((0 : Int32), M1)
  else
    bI (fX10_in (x1).toInt64 (0 : Int64) ((M1.1 o 23)).toInt64 M1) fun r4 M3 =>
    if r4 = 0 then
      some ((0 : Int32), M3)
    else
      bV (fX10_play o x1 M3) fun M5 =>
      some ((1 : Int32), M5)
def fX10_isWrong (o : Nat) (x1 : Int32) (M : Mem) : Option (Int32 × Mem) :=
  ck (ib x1 240) <|
  ck (ib x1 240) <|
  if (M.1 (o + 26) (tn x1)) = (M.1 (o + 10) (tn x1)) then
    some ((0 : Int32), M)
  else
    some ((1 : Int32), M)
def fX10_wrongBy_23 (k4 : Nat → Int32 → Int32 → Int32 → Mem → Option (Int32 × Mem)) (o : Nat) (x1 : Int32) (x3 : Int32) (sx0 : Int32) (sx1 : Int32) (M : Mem) : Option (Int32 × Mem) :=
  k4 o x1 (sx0 + sx1) (x3 + (1 : Int32)) M
def fX10_wrongBy_4  : Nat → Nat → Int32 → Int32 → Int32 → Mem → Option (Int32 × Mem)
  | 0, _, _, _, _, _ => none
  | n + 1, o, x1, x2, x3, M =>
    if x1 ≤ x3 then
      some (x2, M)
    else
      bI (fX10_isWrong o x3 M) fun r2 M1 =>
      if r2 = 0 then
        fX10_wrongBy_23 (fX10_wrongBy_4  n) o x1 x3 x2 (0 : Int32) M1
      else
        fX10_wrongBy_23 (fX10_wrongBy_4  n) o x1 x3 x2 (1 : Int32) M1
def fX10_wrongBy (o : Nat) (x1 : Int32) (M : Mem) : Option (Int32 × Mem) :=
  fX10_wrongBy_4  LF o x1 (0 : Int32) (0 : Int32) M
def fX10_op (o : Nat) (x1 : Int32) (x2 : Int32) (M : Mem) : Option (Int32 × Mem) :=
  bI (fX10_isOp o x1 M) fun r2 M1 =>
  if r2 = 0 then
    some ((-2 : Int32), M1)
  else
    bI (fX10_in (x2).toInt64 (0 : Int64) (3 : Int64) M1) fun r4 M3 =>
    if r4 = 0 then
      some ((-2 : Int32), M3)
    else
      if x2 = 0 then
        bI (fX10_kindOf o x1 M3) fun r8 M7 =>
        some (r8, M7)
      else
        bI (fX10_numberOf o x1 (x2 - (1 : Int32)) M3) fun r6 M5 =>
        some (r6, M5)
def fX10_steps (o : Nat) (M : Mem) : Option (Int32 × Mem) :=
  bI (fX10_lays o M) fun r2 M1 =>
  if r2 = 0 then
    some ((-2 : Int32), M1)
  else
    some ((M1.1 o 20), M1)
def fX10_why (o : Nat) (M : Mem) : Option (Int32 × Mem) :=
  bI (fX10_lays o M) fun r2 M1 =>
  if r2 = 0 then
    some ((-2 : Int32), M1)
  else
    some ((M1.1 o 21), M1)
def fX10_next (o : Nat) (x1 : Int32) (M : Mem) : Option (Int32 × Mem) :=
  bI (fX10_lays o M) fun r2 M1 =>
  if r2 = 0 then
    some ((-2 : Int32), M1)
  else
    bI (fX10_in (x1).toInt64 (0 : Int64) ((M1.1 o 20)).toInt64 M1) fun r4 M3 =>
    if r4 = 0 then
      some ((-2 : Int32), M3)
    else
      ck (ib x1 201) <|
      some ((M3.1 (o + 8) (tn x1)), M3)
def fX10_register (o : Nat) (x1 : Int32) (x2 : Int32) (M : Mem) : Option (Int32 × Mem) :=
  bI (fX10_lays o M) fun r2 M1 =>
  if r2 = 0 then
    some ((-2 : Int32), M1)
  else
    bI (fX10_in (x2).toInt64 (0 : Int64) ((M1.1 o 20)).toInt64 M1) fun r4 M3 =>
    if r4 = 0 then
      some ((-2 : Int32), M3)
    else
      bI (fX10_in (x1).toInt64 (0 : Int64) (7 : Int64) M3) fun r6 M5 =>
      if r6 = 0 then
        some ((-2 : Int32), M5)
      else
        ck (ib (((8 : Int32) * x2) + x1) 1608) <|
        some ((M5.1 (o + 7) (tn (((8 : Int32) * x2) + x1))), M5)
def fX10_branch (o : Nat) (x1 : Int32) (x2 : Int32) (M : Mem) : Option (Int32 × Mem) :=
  bI (fX10_asks o M) fun r2 M1 =>
  if r2 = 0 then
    some ((-2 : Int32), M1)
  else
    bI (fX10_in (x1).toInt64 (0 : Int64) (((M1.1 o 23) - (1 : Int32))).toInt64 M1) fun r4 M3 =>
    if r4 = 0 then
      some ((-2 : Int32), M3)
    else
      if x2 = 0 then
        ck (ib x1 240) <|
        some ((M3.1 (o + 9) (tn x1)), M3)
      else
      if x2 = 1 then
        ck (ib x1 240) <|
        some ((M3.1 (o + 10) (tn x1)), M3)
      else
      if x2 = 2 then
        ck (ib x1 240) <|
        some ((M3.1 (o + 26) (tn x1)), M3)
      else
      if x2 = 3 then
        ck (ib x1 240) <|
        some ((M3.1 (o + 27) (tn x1)), M3)
      else
      if x2 = 4 then
        ck (ib x1 240) <|
        some ((M3.1 (o + 28) (tn x1)), M3)
      else
      if x2 = 5 then
        ck (ib x1 240) <|
        some ((M3.1 (o + 29) (tn x1)), M3)
      else
      if x2 = 6 then
        ck (ib x1 240) <|
        some ((M3.1 (o + 30) (tn x1)), M3)
      else
      if x2 = 7 then
        ck (ib x1 240) <|
        some ((M3.1 (o + 31) (tn x1)), M3)
      else
      if x2 = 8 then
        ck (ib x1 240) <|
        some ((M3.1 (o + 11) (tn x1)), M3)
      else
        some ((-2 : Int32), M3)
def fX10_wrong (o : Nat) (x1 : Int32) (M : Mem) : Option (Int32 × Mem) :=
  bI (fX10_asks o M) fun r2 M1 =>
  if r2 = 0 then
    some ((-2 : Int32), M1)
  else
    bI (fX10_in (x1).toInt64 (0 : Int64) ((M1.1 o 23)).toInt64 M1) fun r4 M3 =>
    if r4 = 0 then
      some ((-2 : Int32), M3)
    else
      bI (fX10_wrongBy o x1 M3) fun r6 M5 =>
      some (r6, M5)
def fX10_isAddress (l0 : Int64) (M : Mem) : Option (Int32 × Mem) :=
  bI (fX10_in l0 (0 : Int64) (63 : Int64) M) fun r2 M1 =>
  ck (isB r2) <|
  some (r2, M1)
def fX10_wrongsAt_36 (k4 : Nat → Int32 → Int32 → Int32 → Mem → Option (Int32 × Mem)) (o : Nat) (x1 : Int32) (x3 : Int32) (sx0 : Int32) (sx1 : Int32) (M : Mem) : Option (Int32 × Mem) :=
  k4 o x1 (sx0 + sx1) (x3 + (1 : Int32)) M
def fX10_wrongsAt_35 (k4 : Nat → Int32 → Int32 → Int32 → Mem → Option (Int32 × Mem)) (o : Nat) (x1 : Int32) (x3 : Int32) (sx0 : Int32) (M : Mem) : Option (Int32 × Mem) :=
  fX10_wrongsAt_36 (k4) o x1 x3 sx0 (0 : Int32) M
def fX10_wrongsAt_4  : Nat → Nat → Int32 → Int32 → Int32 → Mem → Option (Int32 × Mem)
  | 0, _, _, _, _, _ => none
  | n + 1, o, x1, x2, x3, M =>
    if (M.1 o 23) ≤ x3 then
      some (x2, M)
    else
      ck (ib x3 240) <|
      if (M.1 (o + 9) (tn x3)) = x1 then
        bI (fX10_isWrong o x3 M) fun r2 M1 =>
        if r2 = 0 then
          fX10_wrongsAt_35 (fX10_wrongsAt_4  n) o x1 x3 x2 M1
        else
          fX10_wrongsAt_36 (fX10_wrongsAt_4  n) o x1 x3 x2 (1 : Int32) M1
      else
        fX10_wrongsAt_35 (fX10_wrongsAt_4  n) o x1 x3 x2 M
def fX10_wrongsAt (o : Nat) (x1 : Int32) (M : Mem) : Option (Int32 × Mem) :=
  fX10_wrongsAt_4  LF o x1 (0 : Int32) (0 : Int32) M
def fX10_wrongs (o : Nat) (x1 : Int32) (M : Mem) : Option (Int32 × Mem) :=
  bI (fX10_asks o M) fun r2 M1 =>
  if r2 = 0 then
    some ((-2 : Int32), M1)
  else
    bI (fX10_isAddress (x1).toInt64 M1) fun r4 M3 =>
    if r4 = 0 then
      some ((-2 : Int32), M3)
    else
      bI (fX10_wrongsAt o x1 M3) fun r6 M5 =>
      some (r6, M5)
def fX10_worst_42 (k16 : Nat → Int32 → Int32 → Int32 → Mem → Option (Int32 × Mem)) (o : Nat) (x1 : Int32) (x2 : Int32) (x3 : Int32) (M : Mem) : Option (Int32 × Mem) :=
  k16 o x1 x2 (x3 + (1 : Int32)) M
def fX10_worst_16  : Nat → Nat → Int32 → Int32 → Int32 → Mem → Option (Int32 × Mem)
  | 0, _, _, _, _, _ => none
  | n + 1, o, x1, x2, x3, M =>
    if (64 : Int32) ≤ x3 then
      some (x1, M)
    else
      bI (fX10_wrongsAt o x3 M) fun r2 M1 =>
      if x2 < r2 then
        bI (fX10_wrongsAt o x3 M1) fun r4 M3 =>
        fX10_worst_42 (fX10_worst_16  n) o x3 r4 x3 M3
      else
        fX10_worst_42 (fX10_worst_16  n) o x1 x2 x3 M1
def fX10_worst (o : Nat) (M : Mem) : Option (Int32 × Mem) :=
  bI (fX10_asks o M) fun r2 M1 =>
  if r2 = 0 then
    some ((-2 : Int32), M1)
  else
    fX10_worst_16  LF o (-1 : Int32) (0 : Int32) (0 : Int32) M1
def fX10_streak_39 (k16 : Nat → Int32 → Int32 → Int32 → Mem → Option (Int32 × Mem)) (o : Nat) (x1 : Int32) (x3 : Int32) (sx0 : Int32) (M : Mem) : Option (Int32 × Mem) :=
  k16 o (if x1 < sx0 then sx0 else x1) sx0 (x3 + (1 : Int32)) M
def fX10_streak_16  : Nat → Nat → Int32 → Int32 → Int32 → Mem → Option (Int32 × Mem)
  | 0, _, _, _, _, _ => none
  | n + 1, o, x1, x2, x3, M =>
    if (M.1 o 23) ≤ x3 then
      some (x1, M)
    else
      bI (fX10_isWrong o x3 M) fun r2 M1 =>
      if r2 = 0 then
        fX10_streak_39 (fX10_streak_16  n) o x1 x3 (x2 + (1 : Int32)) M1
      else
        fX10_streak_39 (fX10_streak_16  n) o x1 x3 (0 : Int32) M1
def fX10_streak (o : Nat) (M : Mem) : Option (Int32 × Mem) :=
  bI (fX10_asks o M) fun r2 M1 =>
  if r2 = 0 then
    some ((-2 : Int32), M1)
  else
    fX10_streak_16  LF o (0 : Int32) (0 : Int32) (0 : Int32) M1
def fX10_said_50 (k26 : Nat → Int32 → Int32 → Int32 → Mem → Option (Int32 × Mem)) (o : Nat) (x1 : Int32) (x3 : Int32) (sx0 : Int32) (sx1 : Int32) (M : Mem) : Option (Int32 × Mem) :=
  k26 o x1 (sx0 + sx1) (x3 + (1 : Int32)) M
def fX10_said_26  : Nat → Nat → Int32 → Int32 → Int32 → Mem → Option (Int32 × Mem)
  | 0, _, _, _, _, _ => none
  | n + 1, o, x1, x2, x3, M =>
    if (M.1 o 23) ≤ x3 then
      some (x2, M)
    else
      ck (ib x3 240) <|
      if (M.1 (o + 31) (tn x3)) = x1 then
        fX10_said_50 (fX10_said_26  n) o x1 x3 x2 (1 : Int32) M
      else
        fX10_said_50 (fX10_said_26  n) o x1 x3 x2 (0 : Int32) M
def fX10_said (o : Nat) (x1 : Int32) (M : Mem) : Option (Int32 × Mem) :=
  bI (fX10_asks o M) fun r2 M1 =>
  if r2 = 0 then
    some ((-2 : Int32), M1)
  else
    bI (fX10_in (x1).toInt64 (0 : Int64) (2 : Int64) M1) fun r4 M3 =>
    if r4 = 0 then
      some ((-2 : Int32), M3)
    else
      fX10_said_26  LF o x1 (0 : Int32) (0 : Int32) M3
def fX10_gained_76 (k27 : Nat → Int32 → Int32 → Int32 → Mem → Option (Int32 × Mem)) (o : Nat) (x1 : Int32) (x2 : Int32) (x3 : Int32) (M : Mem) : Option (Int32 × Mem) :=
  k27 o x1 x2 (x3 + (1 : Int32)) M
def fX10_gained_74 (k27 : Nat → Int32 → Int32 → Int32 → Mem → Option (Int32 × Mem)) (o : Nat) (x1 : Int32) (x3 : Int32) (sx0 : Int32) (sx1 : Int32) (M : Mem) : Option (Int32 × Mem) :=
  fX10_gained_76 (k27) o x1 (sx0 + sx1) x3 M
def fX10_gained_27  : Nat → Nat → Int32 → Int32 → Int32 → Mem → Option (Int32 × Mem)
  | 0, _, _, _, _, _ => none
  | n + 1, o, x1, x2, x3, M =>
    if (M.1 o 23) ≤ x3 then
      some (x2, M)
    else
      ck (ib x3 240) <|
      if (M.1 (o + 31) (tn x3)) = x1 then
        ck (ib x3 240) <|
        ck (ib x3 240) <|
        if (M.1 (o + 26) (tn x3)) = (M.1 (o + 30) (tn x3)) then
          fX10_gained_76 (fX10_gained_27  n) o x1 x2 x3 M
        else
          bI (fX10_isWrong o x3 M) fun r2 M1 =>
          if r2 = 0 then
            fX10_gained_74 (fX10_gained_27  n) o x1 x3 x2 (1 : Int32) M1
          else
            fX10_gained_74 (fX10_gained_27  n) o x1 x3 x2 (-1 : Int32) M1
      else
        fX10_gained_76 (fX10_gained_27  n) o x1 x2 x3 M
def fX10_gained (o : Nat) (x1 : Int32) (M : Mem) : Option (Int32 × Mem) :=
  bI (fX10_asks o M) fun r2 M1 =>
  if r2 = 0 then
    some ((-1000 : Int32), M1)
  else
    bI (fX10_in (x1).toInt64 (0 : Int64) (2 : Int64) M1) fun r4 M3 =>
    if r4 = 0 then
      some ((-1000 : Int32), M3)
    else
      fX10_gained_27  LF o x1 (0 : Int32) (0 : Int32) M3
def fX10_provided_52 (k28 : Nat → Int32 → Int32 → Int32 → Mem → Option (Int32 × Mem)) (o : Nat) (x1 : Int32) (x3 : Int32) (sx0 : Int32) (sx1 : Int32) (M : Mem) : Option (Int32 × Mem) :=
  k28 o x1 (sx0 + sx1) (x3 + (1 : Int32)) M
def fX10_provided_28  : Nat → Nat → Int32 → Int32 → Int32 → Mem → Option (Int32 × Mem)
  | 0, _, _, _, _, _ => none
  | n + 1, o, x1, x2, x3, M =>
    if (M.1 o 23) ≤ x3 then
      some (x2, M)
    else
      ck (ib x3 240) <|
      if (M.1 (o + 27) (tn x3)) = x1 then
        fX10_provided_52 (fX10_provided_28  n) o x1 x3 x2 (1 : Int32) M
      else
        fX10_provided_52 (fX10_provided_28  n) o x1 x3 x2 (0 : Int32) M
def fX10_provided (o : Nat) (x1 : Int32) (M : Mem) : Option (Int32 × Mem) :=
  bI (fX10_asks o M) fun r2 M1 =>
  if r2 = 0 then
    some ((-2 : Int32), M1)
  else
    bI (fX10_tables o M1) fun r4 M3 =>
    bI (fX10_in (x1).toInt64 (0 : Int64) (r4).toInt64 M3) fun r6 M5 =>
    if r6 = 0 then
      some ((-2 : Int32), M5)
    else
      fX10_provided_28  LF o x1 (0 : Int32) (0 : Int32) M5
def fX10_history (o : Nat) (x1 : Int32) (x2 : Int32) (M : Mem) : Option (Int32 × Mem) :=
  bI (fX10_asksAt o x1 M) fun r2 M1 =>
  if r2 = 0 then
    some ((-2 : Int32), M1)
  else
    bI (fX10_in (x2).toInt64 (0 : Int64) (30 : Int64) M1) fun r4 M3 =>
    if r4 = 0 then
      some ((-2 : Int32), M3)
    else
      some ((((M3.2 o 41) &&& (((1 : Int64) <<< ((x2).toInt64 &&& 63)) - (1 : Int64)))).toInt32, M3)
def fX10_fold (o : Nat) (x1 : Int32) (x2 : Int32) (x3 : Int32) (M : Mem) : Option (Int32 × Mem) :=
  bI (fX10_asksAt o x1 M) fun r2 M1 =>
  if r2 = 0 then
    some ((-2 : Int32), M1)
  else
    bI (fX10_in (x2).toInt64 (1 : Int64) (40 : Int64) M1) fun r4 M3 =>
    if r4 = 0 then
      some ((-2 : Int32), M3)
    else
      bI (fX10_in (x3).toInt64 (1 : Int64) (10 : Int64) M3) fun r6 M5 =>
      if r6 = 0 then
        some ((-2 : Int32), M5)
      else
        bI (fX10_foldOf o x2 x3 M5) fun r8 M7 =>
        some (r8, M7)
def fX10_isTable (o : Nat) (x1 : Int32) (M : Mem) : Option (Int32 × Mem) :=
  bI (fX10_tables o M) fun r2 M1 =>
  bI (fX10_in (x1).toInt64 (1 : Int64) (r2).toInt64 M1) fun r4 M3 =>
  ck (isB r4) <|
  some (r4, M3)
def fX10_index (o : Nat) (x1 : Int32) (x2 : Int32) (x3 : Int32) (M : Mem) : Option (Int32 × Mem) :=
  bI (fX10_asksAt o x3 M) fun r2 M1 =>
  if r2 = 0 then
    some ((-2 : Int32), M1)
  else
    bI (fX10_isTable o x1 M1) fun r4 M3 =>
    if r4 = 0 then
      some ((-2 : Int32), M3)
    else
      bI (fX10_isAddress (x2).toInt64 M3) fun r6 M5 =>
      if r6 = 0 then
        some ((-2 : Int32), M5)
      else
        bI (fX10_indexOf o x1 x2 M5) fun r8 M7 =>
        some (r8, M7)
def fX10_tag (o : Nat) (x1 : Int32) (x2 : Int32) (x3 : Int32) (M : Mem) : Option (Int32 × Mem) :=
  bI (fX10_asksAt o x3 M) fun r2 M1 =>
  if r2 = 0 then
    some ((-2 : Int32), M1)
  else
    bI (fX10_isTable o x1 M1) fun r4 M3 =>
    if r4 = 0 then
      some ((-2 : Int32), M3)
    else
      bI (fX10_isAddress (x2).toInt64 M3) fun r6 M5 =>
      if r6 = 0 then
        some ((-2 : Int32), M5)
      else
        bI (fX10_tagOf o x1 x2 M5) fun r8 M7 =>
        some (r8, M7)
def fX10_asksOf (o : Nat) (x1 : Int32) (x2 : Int32) (M : Mem) : Option (Int32 × Mem) :=
  bI (fX10_asksAt o x2 M) fun r2 M1 =>
  if r2 = 0 then
    some ((0 : Int32), M1)
  else
    bI (fX10_isAddress (x1).toInt64 M1) fun r4 M3 =>
    if r4 = 0 then
      some ((0 : Int32), M3)
    else
      bV (fX10_ask o x1 M3) fun M5 =>
      some ((1 : Int32), M5)
def fX10_provider (o : Nat) (x1 : Int32) (x2 : Int32) (M : Mem) : Option (Int32 × Mem) :=
  bI (fX10_asksOf o x1 x2 M) fun r2 M1 =>
  if r2 = 0 then
    some ((-2 : Int32), M1)
  else
    some ((M1.1 o 45), M1)
def fX10_alternate (o : Nat) (x1 : Int32) (x2 : Int32) (M : Mem) : Option (Int32 × Mem) :=
  bI (fX10_asksOf o x1 x2 M) fun r2 M1 =>
  if r2 = 0 then
    some ((-2 : Int32), M1)
  else
    some ((M1.1 o 46), M1)
def fX10_guess (o : Nat) (x1 : Int32) (x2 : Int32) (M : Mem) : Option (Int32 × Mem) :=
  bI (fX10_asksOf o x1 x2 M) fun r2 M1 =>
  if r2 = 0 then
    some ((-2 : Int32), M1)
  else
    some ((M1.1 o 54), M1)
def fX10_adds (o : Nat) (x1 : Int32) (x2 : Int32) (M : Mem) : Option (Int32 × Mem) :=
  bI (fX10_asksOf o x1 x2 M) fun r2 M1 =>
  if r2 = 0 then
    some ((-1000 : Int32), M1)
  else
    some ((M1.1 o 52), M1)
def fX10_entry (o : Nat) (x1 : Int32) (x2 : Int32) (x3 : Int32) (x4 : Int32) (M : Mem) : Option (Int32 × Mem) :=
  bI (fX10_asksAt o x4 M) fun r2 M1 =>
  if r2 = 0 then
    some ((-1000 : Int32), M1)
  else
    bI (fX10_isTable o x1 M1) fun r4 M3 =>
    if r4 = 0 then
      some ((-1000 : Int32), M3)
    else
      bI (fX10_rowsOf o M3) fun r6 M5 =>
      bI (fX10_in (x2).toInt64 (0 : Int64) ((r6 - (1 : Int32))).toInt64 M5) fun r8 M7 =>
      if r8 = 0 then
        some ((-1000 : Int32), M7)
      else
        bI (fX10_in (x3).toInt64 (0 : Int64) (2 : Int64) M7) fun r10 M9 =>
        if r10 = 0 then
          some ((-1000 : Int32), M9)
        else
          if x3 = 0 then
            ck (ib (((16 : Int32) * (x1 - (1 : Int32))) + x2) 80) <|
            some ((M9.1 (o + 13) (tn (((16 : Int32) * (x1 - (1 : Int32))) + x2))), M9)
          else
            if x3 = (1 : Int32) then
              ck (ib (((16 : Int32) * (x1 - (1 : Int32))) + x2) 80) <|
              some ((M9.1 (o + 14) (tn (((16 : Int32) * (x1 - (1 : Int32))) + x2))), M9)
            else
              ck (ib (((16 : Int32) * (x1 - (1 : Int32))) + x2) 80) <|
              some ((M9.1 (o + 15) (tn (((16 : Int32) * (x1 - (1 : Int32))) + x2))), M9)
def fX10_held_69 (k30 : Nat → Int32 → Int32 → Int32 → Mem → Option (Int32 × Mem)) (o : Nat) (x1 : Int32) (x4 : Int32) (sx0 : Int32) (sx1 : Int32) (M : Mem) : Option (Int32 × Mem) :=
  k30 o x1 (sx0 + sx1) (x4 + (1 : Int32)) M
def fX10_held_68 (k30 : Nat → Int32 → Int32 → Int32 → Mem → Option (Int32 × Mem)) (o : Nat) (x1 : Int32) (x4 : Int32) (sx0 : Int32) (M : Mem) : Option (Int32 × Mem) :=
  fX10_held_69 (k30) o x1 x4 sx0 (0 : Int32) M
def fX10_held_64 (k30 : Nat → Int32 → Int32 → Int32 → Mem → Option (Int32 × Mem)) (o : Nat) (x1 : Int32) (x4 : Int32) (sx0 : Int32) (M : Mem) : Option (Int32 × Mem) :=
  fX10_held_69 (k30) o x1 x4 sx0 (1 : Int32) M
def fX10_held_30  : Nat → Nat → Int32 → Int32 → Int32 → Mem → Option (Int32 × Mem)
  | 0, _, _, _, _, _ => none
  | n + 1, o, x1, x3, x4, M =>
    if (80 : Int32) ≤ x4 then
      some (x3, M)
    else
      ck (ib x4 80) <|
      if (M.1 (o + 13) (tn x4)) = (-1 : Int32) then
        fX10_held_68 (fX10_held_30  n) o x1 x4 x3 M
      else
        if x1 = 0 then
          fX10_held_64 (fX10_held_30  n) o x1 x4 x3 M
        else
          if (x4 / (16 : Int32)) = (x1 - (1 : Int32)) then
            fX10_held_64 (fX10_held_30  n) o x1 x4 x3 M
          else
            fX10_held_68 (fX10_held_30  n) o x1 x4 x3 M
def fX10_held (o : Nat) (x1 : Int32) (x2 : Int32) (M : Mem) : Option (Int32 × Mem) :=
  bI (fX10_asksAt o x2 M) fun r2 M1 =>
  if r2 = 0 then
    some ((-2 : Int32), M1)
  else
    bI (fX10_tables o M1) fun r4 M3 =>
    bI (fX10_in (x1).toInt64 (0 : Int64) (r4).toInt64 M3) fun r6 M5 =>
    if r6 = 0 then
      some ((-2 : Int32), M5)
    else
      fX10_held_30  LF o x1 (0 : Int32) (0 : Int32) M5
def fX10_base (o : Nat) (x1 : Int32) (x2 : Int32) (M : Mem) : Option (Int32 × Mem) :=
  bI (fX10_asksAt o x2 M) fun r2 M1 =>
  if r2 = 0 then
    some ((-2 : Int32), M1)
  else
    bI (fX10_in (x1).toInt64 (0 : Int64) (15 : Int64) M1) fun r4 M3 =>
    if r4 = 0 then
      some ((-2 : Int32), M3)
    else
      ck (ib x1 16) <|
      some ((M3.1 (o + 16) (tn x1)), M3)
def fX10_gauge (o : Nat) (x1 : Int32) (x2 : Int32) (M : Mem) : Option (Int32 × Mem) :=
  bI (fX10_asksAt o x2 M) fun r2 M1 =>
  if r2 = 0 then
    some ((-2 : Int32), M1)
  else
    bI (fX10_in (x1).toInt64 (0 : Int64) (3 : Int64) M1) fun r4 M3 =>
    if r4 = 0 then
      some ((-2 : Int32), M3)
    else
      if x1 = 0 then
        some ((M3.1 o 37), M3)
      else
        if x1 = (1 : Int32) then
          some ((M3.1 o 38), M3)
        else
          if x1 = (2 : Int32) then
            some ((M3.1 o 39), M3)
          else
            some ((M3.1 o 40), M3)
def fX10_loop (o : Nat) (x1 : Int32) (x2 : Int32) (x3 : Int32) (M : Mem) : Option (Int32 × Mem) :=
  bI (fX10_asksAt o x3 M) fun r2 M1 =>
  if r2 = 0 then
    some ((-2 : Int32), M1)
  else
    bI (fX10_in (x1).toInt64 (0 : Int64) (7 : Int64) M1) fun r4 M3 =>
    if r4 = 0 then
      some ((-2 : Int32), M3)
    else
      if x2 = 0 then
        ck (ib x1 8) <|
        some ((M3.1 (o + 17) (tn x1)), M3)
      else
      if x2 = 1 then
        ck (ib x1 8) <|
        some ((M3.1 (o + 18) (tn x1)), M3)
      else
      if x2 = 2 then
        ck (ib x1 8) <|
        some ((M3.1 (o + 19) (tn x1)), M3)
      else
      if x2 = 3 then
        ck (ib x1 8) <|
        some ((M3.1 (o + 20) (tn x1)), M3)
      else
      if x2 = 4 then
        ck (ib x1 8) <|
        some ((M3.1 (o + 21) (tn x1)), M3)
      else
        some ((-2 : Int32), M3)
def fX10_corrector (o : Nat) (x1 : Int32) (x2 : Int32) (x3 : Int32) (M : Mem) : Option (Int32 × Mem) :=
  bI (fX10_asksAt o x3 M) fun r2 M1 =>
  if r2 = 0 then
    some ((-1000 : Int32), M1)
  else
    bI (fX10_in (x1).toInt64 (0 : Int64) (2 : Int64) M1) fun r4 M3 =>
    if r4 = 0 then
      some ((-1000 : Int32), M3)
    else
      bI (fX10_in (x2).toInt64 (0 : Int64) (15 : Int64) M3) fun r6 M5 =>
      if r6 = 0 then
        some ((-1000 : Int32), M5)
      else
        ck (ib (((16 : Int32) * x1) + x2) 48) <|
        some ((M5.1 (o + 22) (tn (((16 : Int32) * x1) + x2))), M5)
def fX10_clash_83 (k33 : Nat → Int32 → Int32 → Int32 → Int32 → Mem → Option (Int32 × Mem)) (o : Nat) (x1 : Int32) (x2 : Int32) (x5 : Int32) (sx0 : Int32) (sx1 : Int32) (M : Mem) : Option (Int32 × Mem) :=
  k33 o x1 x2 (sx0 + sx1) (x5 + (1 : Int32)) M
def fX10_clash_82 (k33 : Nat → Int32 → Int32 → Int32 → Int32 → Mem → Option (Int32 × Mem)) (o : Nat) (x1 : Int32) (x2 : Int32) (x5 : Int32) (sx0 : Int32) (M : Mem) : Option (Int32 × Mem) :=
  fX10_clash_83 (k33) o x1 x2 x5 sx0 (0 : Int32) M
def fX10_clash_33  : Nat → Nat → Int32 → Int32 → Int32 → Int32 → Mem → Option (Int32 × Mem)
  | 0, _, _, _, _, _, _ => none
  | n + 1, o, x1, x2, x4, x5, M =>
    bI (fX10_tables o M) fun r2 M1 =>
    if r2 < x5 then
      some (x4, M1)
    else
      bI (fX10_indexOf o x5 x1 M1) fun r4 M3 =>
      bI (fX10_indexOf o x5 x2 M3) fun r6 M5 =>
      if r4 = r6 then
        bI (fX10_tagOf o x5 x1 M5) fun r8 M7 =>
        bI (fX10_tagOf o x5 x2 M7) fun r10 M9 =>
        if r8 = r10 then
          fX10_clash_83 (fX10_clash_33  n) o x1 x2 x5 x4 (1 : Int32) M9
        else
          fX10_clash_82 (fX10_clash_33  n) o x1 x2 x5 x4 M9
      else
        fX10_clash_82 (fX10_clash_33  n) o x1 x2 x5 x4 M5
def fX10_clash (o : Nat) (x1 : Int32) (x2 : Int32) (x3 : Int32) (M : Mem) : Option (Int32 × Mem) :=
  bI (fX10_asksAt o x3 M) fun r2 M1 =>
  if r2 = 0 then
    some ((-2 : Int32), M1)
  else
    bI (fX10_isAddress (x1).toInt64 M1) fun r4 M3 =>
    if r4 = 0 then
      some ((-2 : Int32), M3)
    else
      bI (fX10_isAddress (x2).toInt64 M3) fun r6 M5 =>
      if r6 = 0 then
        some ((-2 : Int32), M5)
      else
        fX10_clash_33  LF o x1 x2 (0 : Int32) (1 : Int32) M5
def fX10_isPlain (o : Nat) (x1 : Int32) (M : Mem) : Option (Int32 × Mem) :=
  bI (fX10_isOp o x1 M) fun r2 M1 =>
  if r2 = 0 then
    some ((0 : Int32), M1)
  else
    bI (fX10_kindOf o x1 M1) fun r4 M3 =>
    bI (fX10_isBranch r4 M3) fun r6 M5 =>
    if r6 = 0 then
      bI (fX10_kindOf o x1 M5) fun r8 M7 =>
      if r8 = (10 : Int32) then
        some ((0 : Int32), M7)
      else
        some ((1 : Int32), M7)
    else
      some ((0 : Int32), M5)
def fX10_goAstray_147 (k72 : Nat → Int32 → Int32 → Mem → Option (Int32 × Mem)) (o : Nat) (x4 : Int32) (sx0 : Int32) (M : Mem) : Option (Int32 × Mem) :=
  k72 o sx0 (x4 + (1 : Int32)) M
def fX10_goAstray_126 (k72 : Nat → Int32 → Int32 → Mem → Option (Int32 × Mem)) (o : Nat) (x3 : Int32) (x4 : Int32) (M : Mem) : Option (Int32 × Mem) :=
  bI (fX10_kindOf o x3 M) fun r2 M1 =>
  if r2 = (9 : Int32) then
    bI (fX10_goalOf o x3 M1) fun r4 M3 =>
    fX10_goAstray_147 (k72) o x4 r4 M3
  else
    fX10_goAstray_147 (k72) o x4 (x3 + (1 : Int32)) M1
def fX10_goAstray_72  : Nat → Nat → Int32 → Int32 → Mem → Option (Int32 × Mem)
  | 0, _, _, _, _ => none
  | n + 1, o, x3, x4, M =>
    ck (ib (4 : Int32) 215) <|
    if (M.1 (o + 1) (tn (4 : Int32))) ≤ x4 then
      some (x4, M)
    else
      bI (fX10_isPlain o x3 M) fun r2 M1 =>
      if r2 = 0 then
        some (x4, M1)
      else
        bI (fX10_kindOf o x3 M1) fun r4 M3 =>
        if r4 = (9 : Int32) then
          fX10_goAstray_126 (fX10_goAstray_72  n) o x3 x4 M3
        else
          bI (fX10_kindOf o x3 M3) fun r6 M5 =>
          bI (fX10_numberOf o x3 (0 : Int32) M5) fun r8 M7 =>
          bI (fX10_numberOf o x3 (1 : Int32) M7) fun r10 M9 =>
          bV (fX10_obey r6 r8 r10 (o + 32) (0 : Int32) M9) fun M11 =>
          fX10_goAstray_126 (fX10_goAstray_72  n) o x3 x4 M11
def fX10_goAstray_35  : Nat → Nat → Int32 → Int32 → Int32 → Int32 → Mem → Option (Int32 × Mem)
  | 0, _, _, _, _, _, _ => none
  | n + 1, o, x1, x3, x4, x5, M =>
    if (8 : Int32) ≤ x5 then
      fX10_goAstray_72  LF o x3 x4 M
    else
      ck (ib x1 240) <|
      ck (ib (((8 : Int32) * (M.1 (o + 11) (tn x1))) + x5) 1608) <|
      ck (ib x5 8) <|
      fX10_goAstray_35  n o x1 x3 x4 (x5 + (1 : Int32)) (pI M (o + 32) (tn x5) (M.1 (o + 7) (tn (((8 : Int32) * (M.1 (o + 11) (tn x1))) + x5))))
def fX10_goAstray_28  (o : Nat) (x1 : Int32) (sx0 : Int32) (M : Mem) : Option (Int32 × Mem) :=
  fX10_goAstray_35  LF o x1 sx0 (0 : Int32) (0 : Int32) M
def fX10_goAstray (o : Nat) (x1 : Int32) (M : Mem) : Option (Int32 × Mem) :=
  ck (ib x1 240) <|
  ck (ib x1 240) <|
  if (M.1 (o + 26) (tn x1)) = (1 : Int32) then
    bI (fX10_goalOf o (M.1 (o + 9) (tn x1)) M) fun r2 M1 =>
    fX10_goAstray_28  o x1 r2 M1
  else
    fX10_goAstray_28  o x1 ((M.1 (o + 9) (tn x1)) + (1 : Int32)) M
def fX10_isOfRun (o : Nat) (x1 : Int32) (M : Mem) : Option (Int32 × Mem) :=
  bI (fX10_in (x1).toInt64 (0 : Int64) (((M.1 o 22) - (1 : Int32))).toInt64 M) fun r2 M1 =>
  ck (isB r2) <|
  some (r2, M1)
def fX10_strays (o : Nat) (x1 : Int32) (M : Mem) : Option (Int32 × Mem) :=
  bI (fX10_asks o M) fun r2 M1 =>
  if r2 = 0 then
    some ((-2 : Int32), M1)
  else
    bI (fX10_isOfRun o x1 M1) fun r4 M3 =>
    if r4 = 0 then
      some ((-2 : Int32), M3)
    else
      bI (fX10_isWrong o x1 M3) fun r6 M5 =>
      if r6 = 0 then
        some ((0 : Int32), M5)
      else
        bI (fX10_goAstray o x1 M5) fun r8 M7 =>
        some (r8, M7)
def fX10_stray (o : Nat) (x1 : Int32) (x2 : Int32) (M : Mem) : Option (Int32 × Mem) :=
  bI (fX10_asks o M) fun r2 M1 =>
  if r2 = 0 then
    some ((-2 : Int32), M1)
  else
    bI (fX10_isOfRun o x1 M1) fun r4 M3 =>
    if r4 = 0 then
      some ((-2 : Int32), M3)
    else
      bI (fX10_in (x2).toInt64 (0 : Int64) (7 : Int64) M3) fun r6 M5 =>
      if r6 = 0 then
        some ((-2 : Int32), M5)
      else
        bI (fX10_isWrong o x1 M5) fun r8 M7 =>
        if r8 = 0 then
          some ((-1 : Int32), M7)
        else
          bI (fX10_goAstray o x1 M7) fun r10 M9 =>
          ck (ib x2 8) <|
          some ((M9.1 (o + 32) (tn x2)), M9)
def fX10_costNow_38 (k7 : Nat → Int32 → Int32 → Mem → Option (Int32 × Mem)) (o : Nat) (x1 : Int32) (x2 : Int32) (M : Mem) : Option (Int32 × Mem) :=
  k7 o x1 (x2 + (1 : Int32)) M
def fX10_costNow_7  : Nat → Nat → Int32 → Int32 → Mem → Option (Int32 × Mem)
  | 0, _, _, _, _ => none
  | n + 1, o, x1, x2, M =>
    if (M.1 o 22) ≤ x2 then
      some (x1, M)
    else
      bI (fX10_isWrong o x2 M) fun r2 M1 =>
      if r2 = 0 then
        fX10_costNow_38 (fX10_costNow_7  n) o x1 x2 M1
      else
        ck (ib (3 : Int32) 215) <|
        bI (fX10_goAstray o x2 M1) fun r4 M3 =>
        fX10_costNow_38 (fX10_costNow_7  n) o (x1 + ((M1.1 (o + 1) (tn (3 : Int32))) + r4)) x2 M3
def fX10_costNow (o : Nat) (M : Mem) : Option (Int32 × Mem) :=
  fX10_costNow_7  LF o (M.1 o 20) (0 : Int32) M
def fX10_cycles (o : Nat) (M : Mem) : Option (Int32 × Mem) :=
  bI (fX10_asks o M) fun r2 M1 =>
  if r2 = 0 then
    some ((-2 : Int32), M1)
  else
    bI (fX10_costNow o M1) fun r4 M3 =>
    some (r4, M3)
def fX10_playBy (o : Nat) (x1 : Int32) (M : Mem) : Option (Mem) :=
  bV (fX10_play o ((pI M o 25 x1).1 o 23) (pI M o 25 x1)) fun M1 =>
  some M1
def fX10_cheapest_17  : Nat → Nat → Int32 → Int32 → Mem → Option (Int32 × Mem)
  | 0, _, _, _, _ => none
  | n + 1, o, x1, x2, M =>
    if (8 : Int32) ≤ x2 then
      some (x1, M)
    else
      bV (fX10_playBy o x2 M) fun M1 =>
      bI (fX10_costNow o M1) fun r3 M2 =>
      fX10_cheapest_17  n o (if r3 < x1 then r3 else x1) (x2 + (1 : Int32)) M2
def fX10_cheapest (o : Nat) (M : Mem) : Option (Int32 × Mem) :=
  bI (fX10_asks o M) fun r2 M1 =>
  if r2 = 0 then
    some ((-2 : Int32), M1)
  else
    bI (fX10_costNow o M1) fun r4 M3 =>
    fX10_cheapest_17  LF o r4 (0 : Int32) M3
def fX10_wrongWith (o : Nat) (x1 : Int32) (M : Mem) : Option (Int32 × Mem) :=
  bV (fX10_playBy o x1 M) fun M1 =>
  bI (fX10_wrongBy o (M1.1 o 23) M1) fun r3 M2 =>
  some (r3, M2)
def fX10_by (o : Nat) (x1 : Int32) (M : Mem) : Option (Int32 × Mem) :=
  bI (fX10_lays o M) fun r2 M1 =>
  if r2 = 0 then
    some ((-2 : Int32), M1)
  else
    bI (fX10_in (x1).toInt64 (0 : Int64) (7 : Int64) M1) fun r4 M3 =>
    if r4 = 0 then
      some ((-2 : Int32), M3)
    else
      bI (fX10_wrongWith o x1 M3) fun r6 M5 =>
      some (r6, M5)
def fX10_ideal_47 (k20 : Nat → Int32 → Int32 → Int32 → Mem → Option (Int32 × Mem)) (o : Nat) (x1 : Int32) (x2 : Int32) (x3 : Int32) (M : Mem) : Option (Int32 × Mem) :=
  k20 o x1 x2 (x3 + (1 : Int32)) M
def fX10_ideal_20  : Nat → Nat → Int32 → Int32 → Int32 → Mem → Option (Int32 × Mem)
  | 0, _, _, _, _, _ => none
  | n + 1, o, x1, x2, x3, M =>
    if (8 : Int32) ≤ x3 then
      some (x1, M)
    else
      bI (fX10_wrongWith o x3 M) fun r2 M1 =>
      if r2 < x2 then
        fX10_ideal_47 (fX10_ideal_20  n) o x3 r2 x3 M1
      else
        fX10_ideal_47 (fX10_ideal_20  n) o x1 x2 x3 M1
def fX10_ideal (o : Nat) (M : Mem) : Option (Int32 × Mem) :=
  bI (fX10_lays o M) fun r2 M1 =>
  if r2 = 0 then
    some ((-2 : Int32), M1)
  else
    bI (fX10_wrongWith o (0 : Int32) M1) fun r4 M3 =>
    fX10_ideal_20  LF o (0 : Int32) r4 (1 : Int32) M3
def fX10_wrongWithout (o : Nat) (x1 : Int32) (M : Mem) : Option (Int32 × Mem) :=
  bV (fX10_asTold o M) fun M1 =>
  bV (fX10_play o ((pI M1 o 26 x1).1 o 23) (pI M1 o 26 x1)) fun M2 =>
  bI (fX10_wrongBy o (M2.1 o 23) M2) fun r4 M3 =>
  some (r4, M3)
def fX10_without (o : Nat) (x1 : Int32) (M : Mem) : Option (Int32 × Mem) :=
  bI (fX10_lays o M) fun r2 M1 =>
  if r2 = 0 then
    some ((-2 : Int32), M1)
  else
    bI (fX10_isTable o x1 M1) fun r4 M3 =>
    if r4 = 0 then
      some ((-2 : Int32), M3)
    else
      bI (fX10_wrongWithout o x1 M3) fun r6 M5 =>
      some (r6, M5)
def fX10_spare_50 (k16 : Nat → Int32 → Int32 → Int32 → Mem → Option (Int32 × Mem)) (o : Nat) (x1 : Int32) (x2 : Int32) (x3 : Int32) (M : Mem) : Option (Int32 × Mem) :=
  k16 o x1 x2 (x3 + (1 : Int32)) M
def fX10_spare_45 (k16 : Nat → Int32 → Int32 → Int32 → Mem → Option (Int32 × Mem)) (o : Nat) (x3 : Int32) (x4 : Int32) (M : Mem) : Option (Int32 × Mem) :=
  fX10_spare_50 (k16) o x3 x4 x3 M
def fX10_spare_16  : Nat → Nat → Int32 → Int32 → Int32 → Mem → Option (Int32 × Mem)
  | 0, _, _, _, _, _ => none
  | n + 1, o, x1, x2, x3, M =>
    bI (fX10_tables o M) fun r2 M1 =>
    if r2 < x3 then
      some (x1, M1)
    else
      bI (fX10_wrongWithout o x3 M1) fun r4 M3 =>
      if x1 = (-1 : Int32) then
        fX10_spare_45 (fX10_spare_16  n) o x3 r4 M3
      else
        if r4 < x2 then
          fX10_spare_45 (fX10_spare_16  n) o x3 r4 M3
        else
          fX10_spare_50 (fX10_spare_16  n) o x1 x2 x3 M3
def fX10_spare (o : Nat) (M : Mem) : Option (Int32 × Mem) :=
  bI (fX10_lays o M) fun r2 M1 =>
  if r2 = 0 then
    some ((-2 : Int32), M1)
  else
    fX10_spare_16  LF o (-1 : Int32) (0 : Int32) (1 : Int32) M1
def fX10_lowOf (o : Nat) (x1 : Int32) (M : Mem) : Option (Int32 × Mem) :=
  if x1 = (1 : Int32) then
    some ((1 : Int32), M)
  else
    ck (ib (((10 : Int32) + x1) - (2 : Int32)) 215) <|
    some (((M.1 (o + 1) (tn (((10 : Int32) + x1) - (2 : Int32)))) + (1 : Int32)), M)
def fX10_farOf (o : Nat) (x1 : Int32) (M : Mem) : Option (Int32 × Mem) :=
  bI (fX10_tables o M) fun r2 M1 =>
  if x1 = r2 then
    some ((40 : Int32), M1)
  else
    ck (ib ((10 : Int32) + x1) 215) <|
    some (((M1.1 (o + 1) (tn ((10 : Int32) + x1))) - (1 : Int32)), M1)
def fX10_wrongSpanned (o : Nat) (x1 : Int32) (x2 : Int32) (M : Mem) : Option (Int32 × Mem) :=
  bV (fX10_asTold o M) fun M1 =>
  ck (ib x1 6) <|
  bV (fX10_play o ((pI M1 (o + 12) (tn x1) x2).1 o 23) (pI M1 (o + 12) (tn x1) x2)) fun M2 =>
  bI (fX10_wrongBy o (M2.1 o 23) M2) fun r4 M3 =>
  some (r4, M3)
def fX10_spanned (o : Nat) (x1 : Int32) (x2 : Int32) (M : Mem) : Option (Int32 × Mem) :=
  bI (fX10_lays o M) fun r2 M1 =>
  if r2 = 0 then
    some ((-2 : Int32), M1)
  else
    bI (fX10_isTable o x1 M1) fun r4 M3 =>
    if r4 = 0 then
      some ((-2 : Int32), M3)
    else
      bI (fX10_lowOf o x1 M3) fun r6 M5 =>
      bI (fX10_farOf o x1 M5) fun r8 M7 =>
      bI (fX10_in (x2).toInt64 (r6).toInt64 (r8).toInt64 M7) fun r10 M9 =>
      if r10 = 0 then
        some ((-2 : Int32), M9)
      else
        bI (fX10_wrongSpanned o x1 x2 M9) fun r12 M11 =>
        some (r12, M11)
def fX10_span_70 (k36 : Nat → Int32 → Int32 → Int32 → Int32 → Mem → Option (Int32 × Mem)) (o : Nat) (x1 : Int32) (x2 : Int32) (x3 : Int32) (x4 : Int32) (M : Mem) : Option (Int32 × Mem) :=
  k36 o x1 x2 x3 (x4 + (1 : Int32)) M
def fX10_span_36  : Nat → Nat → Int32 → Int32 → Int32 → Int32 → Mem → Option (Int32 × Mem)
  | 0, _, _, _, _, _, _ => none
  | n + 1, o, x1, x2, x3, x4, M =>
    bI (fX10_farOf o x1 M) fun r2 M1 =>
    if r2 < x4 then
      some (x2, M1)
    else
      bI (fX10_wrongSpanned o x1 x4 M1) fun r4 M3 =>
      if r4 < x3 then
        fX10_span_70 (fX10_span_36  n) o x1 x4 r4 x4 M3
      else
        fX10_span_70 (fX10_span_36  n) o x1 x2 x3 x4 M3
def fX10_span (o : Nat) (x1 : Int32) (M : Mem) : Option (Int32 × Mem) :=
  bI (fX10_lays o M) fun r2 M1 =>
  if r2 = 0 then
    some ((-2 : Int32), M1)
  else
    bI (fX10_isTable o x1 M1) fun r4 M3 =>
    if r4 = 0 then
      some ((-2 : Int32), M3)
    else
      bI (fX10_lowOf o x1 M3) fun r6 M5 =>
      bI (fX10_wrongSpanned o x1 r6 M5) fun r8 M7 =>
      fX10_span_36  LF o x1 r6 r8 (r6 + (1 : Int32)) M7
def fX10_playPattern_66 (k25 : Nat → Int32 → Int32 → Int32 → Int32 → Int32 → Mem → Option (Mem)) (o : Nat) (x1 : Int32) (x2 : Int32) (x3 : Int32) (x4 : Int32) (x5 : Int32) (x6 : Int32) (sc0 : Nat) (sx1 : Int32) (sx2 : Int32) (sx3 : Int32) (M : Mem) : Option (Mem) :=
  ck (ib sx1 30) <|
  bV (fX10_learn o x6 (pI M sc0 (tn sx1) (sx2 + sx3))) fun M1 =>
  k25 o x1 x2 x3 x4 (x5 + (1 : Int32)) M1
def fX10_playPattern_25 (k7 : Nat → Int32 → Int32 → Int32 → Int32 → Mem → Option (Mem)) : Nat → Nat → Int32 → Int32 → Int32 → Int32 → Int32 → Mem → Option (Mem)
  | 0, _, _, _, _, _, _, _ => none
  | n + 1, o, x1, x2, x3, x4, x5, M =>
    if x3 ≤ x5 then
      k7 o x1 x2 x3 (x4 + (1 : Int32)) M
    else
      bV (fX10_ask o x1 M) fun M1 =>
      ck (ib x4 30) <|
      if (M1.1 o 54) = ((x2 >>> (x5 &&& 31)) &&& (1 : Int32)) then
        fX10_playPattern_66 (fX10_playPattern_25 k7 n) o x1 x2 x3 x4 x5 ((x2 >>> (x5 &&& 31)) &&& (1 : Int32)) (o + 33) x4 (M1.1 (o + 33) (tn x4)) (0 : Int32) M1
      else
        fX10_playPattern_66 (fX10_playPattern_25 k7 n) o x1 x2 x3 x4 x5 ((x2 >>> (x5 &&& 31)) &&& (1 : Int32)) (o + 33) x4 (M1.1 (o + 33) (tn x4)) (1 : Int32) M1
def fX10_playPattern_7  : Nat → Nat → Int32 → Int32 → Int32 → Int32 → Mem → Option (Mem)
  | 0, _, _, _, _, _, _ => none
  | n + 1, o, x1, x2, x3, x4, M =>
    if (30 : Int32) ≤ x4 then
      some M
    else
      ck (ib x4 30) <|
      fX10_playPattern_25 (fX10_playPattern_7  n) LF o x1 x2 x3 x4 (0 : Int32) (pI M (o + 33) (tn x4) (0 : Int32))
def fX10_playPattern (o : Nat) (x1 : Int32) (x2 : Int32) (x3 : Int32) (M : Mem) : Option (Mem) :=
  bV (fX10_beginGuesser o M) fun M1 =>
  fX10_playPattern_7  LF o x1 x2 x3 (0 : Int32) M1
def fX10_asksPattern (o : Nat) (x1 : Int32) (x2 : Int32) (x3 : Int32) (M : Mem) : Option (Int32 × Mem) :=
  bI (fX10_lays o M) fun r2 M1 =>
  if r2 = 0 then
    some ((0 : Int32), M1)
  else
    bI (fX10_isAddress (x1).toInt64 M1) fun r4 M3 =>
    if r4 = 0 then
      some ((0 : Int32), M3)
    else
      bI (fX10_in (x3).toInt64 (1 : Int64) (16 : Int64) M3) fun r6 M5 =>
      if r6 = 0 then
        some ((0 : Int32), M5)
      else
        bI (fX10_in (x2).toInt64 (0 : Int64) ((((1 : Int32) <<< (x3 &&& 31)) - (1 : Int32))).toInt64 M5) fun r8 M7 =>
        if r8 = 0 then
          some ((0 : Int32), M7)
        else
          bV (fX10_playPattern o x1 x2 x3 M7) fun M9 =>
          some ((1 : Int32), M9)
def fX10_learntNow_24  (x1 : Int32) (M : Mem) : Option (Int32 × Mem) :=
  if x1 = (30 : Int32) then
    some ((-1 : Int32), M)
  else
    some (x1, M)
def fX10_learntNow_3  : Nat → Nat → Int32 → Mem → Option (Int32 × Mem)
  | 0, _, _, _ => none
  | n + 1, o, x1, M =>
    if x1 ≤ 0 then
      fX10_learntNow_24  x1 M
    else
      ck (ib (x1 - (1 : Int32)) 30) <|
      if (M.1 (o + 33) (tn (x1 - (1 : Int32)))) = 0 then
        fX10_learntNow_3  n o (x1 + (-1 : Int32)) M
      else
        fX10_learntNow_24  x1 M
def fX10_learntNow (o : Nat) (M : Mem) : Option (Int32 × Mem) :=
  fX10_learntNow_3  LF o (30 : Int32) M
def fX10_round (o : Nat) (x1 : Int32) (x2 : Int32) (x3 : Int32) (x4 : Int32) (M : Mem) : Option (Int32 × Mem) :=
  bI (fX10_in (x4).toInt64 (0 : Int64) (29 : Int64) M) fun r2 M1 =>
  if r2 = 0 then
    some ((-2 : Int32), M1)
  else
    bI (fX10_asksPattern o x1 x2 x3 M1) fun r4 M3 =>
    if r4 = 0 then
      some ((-2 : Int32), M3)
    else
      ck (ib x4 30) <|
      some ((M3.1 (o + 33) (tn x4)), M3)
def fX10_learnt (o : Nat) (x1 : Int32) (x2 : Int32) (x3 : Int32) (M : Mem) : Option (Int32 × Mem) :=
  bI (fX10_asksPattern o x1 x2 x3 M) fun r2 M1 =>
  if r2 = 0 then
    some ((-2 : Int32), M1)
  else
    bI (fX10_learntNow o M1) fun r4 M3 =>
    some (r4, M3)
def fX10_learns_65 (k35 : Nat → Int32 → Int32 → Int32 → Int32 → Mem → Option (Int32 × Mem)) (o : Nat) (x1 : Int32) (x2 : Int32) (x4 : Int32) (sx0 : Int32) (sx1 : Int32) (M : Mem) : Option (Int32 × Mem) :=
  k35 o x1 x2 (sx0 + sx1) (x4 + (1 : Int32)) M
def fX10_learns_35  : Nat → Nat → Int32 → Int32 → Int32 → Int32 → Mem → Option (Int32 × Mem)
  | 0, _, _, _, _, _, _ => none
  | n + 1, o, x1, x2, x3, x4, M =>
    if ((1 : Int32) <<< (x2 &&& 31)) ≤ x4 then
      some (x3, M)
    else
      bV (fX10_playPattern o x1 x4 x2 M) fun M1 =>
      bI (fX10_learntNow o M1) fun r3 M2 =>
      if r3 = (-1 : Int32) then
        fX10_learns_65 (fX10_learns_35  n) o x1 x2 x4 x3 (0 : Int32) M2
      else
        fX10_learns_65 (fX10_learns_35  n) o x1 x2 x4 x3 (1 : Int32) M2
def fX10_learns (o : Nat) (x1 : Int32) (x2 : Int32) (M : Mem) : Option (Int32 × Mem) :=
  bI (fX10_lays o M) fun r2 M1 =>
  if r2 = 0 then
    some ((-2 : Int32), M1)
  else
    bI (fX10_isAddress (x1).toInt64 M1) fun r4 M3 =>
    if r4 = 0 then
      some ((-2 : Int32), M3)
    else
      bI (fX10_in (x2).toInt64 (1 : Int64) (5 : Int64) M3) fun r6 M5 =>
      if r6 = 0 then
        some ((-2 : Int32), M5)
      else
        fX10_learns_35  LF o x1 x2 (0 : Int32) (0 : Int32) M5
def fX10_numberIn (o : Nat) (x1 : Int32) (x2 : Int32) (M : Mem) : Option (Int64 × Mem) :=
  ck (ib (((60 : Int32) * x1) + x2) 240) <|
  some ((M.2 (o + 36) (tn (((60 : Int32) * x1) + x2))), M)
def fX10_areIn_41 (k5 : Nat → Int32 → Int32 → Int32 → Int32 → Mem → Option (Int32 × Mem)) (o : Nat) (x1 : Int32) (x2 : Int32) (x4 : Int32) (sx0 : Int32) (M : Mem) : Option (Int32 × Mem) :=
  k5 o x1 x2 sx0 (x4 + (1 : Int32)) M
def fX10_areIn_40 (k5 : Nat → Int32 → Int32 → Int32 → Int32 → Mem → Option (Int32 × Mem)) (o : Nat) (x1 : Int32) (x2 : Int32) (x4 : Int32) (M : Mem) : Option (Int32 × Mem) :=
  fX10_areIn_41 (k5) o x1 x2 x4 (0 : Int32) M
def fX10_areIn_5  : Nat → Nat → Int32 → Int32 → Int32 → Int32 → Mem → Option (Int32 × Mem)
  | 0, _, _, _, _, _, _ => none
  | n + 1, o, x1, x2, x3, x4, M =>
    ck (ib x1 4) <|
    if (M.1 (o + 34) (tn x1)) ≤ x4 then
      ck (isB x3) <|
      some (x3, M)
    else
      if x3 = 0 then
        fX10_areIn_40 (fX10_areIn_5  n) o x1 x2 x4 M
      else
        bL (fX10_numberIn o x1 x4 M) fun r2 M1 =>
        bI (fX10_in r2 (0 : Int64) (x2).toInt64 M1) fun r4 M3 =>
        if r4 = 0 then
          fX10_areIn_40 (fX10_areIn_5  n) o x1 x2 x4 M3
        else
          fX10_areIn_41 (fX10_areIn_5  n) o x1 x2 x4 (1 : Int32) M3
def fX10_areIn (o : Nat) (x1 : Int32) (x2 : Int32) (M : Mem) : Option (Int32 × Mem) :=
  fX10_areIn_5  LF o x1 x2 (1 : Int32) (0 : Int32) M
def fX10_isSlot (x0 : Int32) (M : Mem) : Option (Int32 × Mem) :=
  bI (fX10_in (x0).toInt64 (0 : Int64) (3 : Int64) M) fun r2 M1 =>
  ck (isB r2) <|
  some (r2, M1)
def fX10_trace_95 (k51 : Nat → Int32 → Int32 → Int32 → Mem → Option (Int32 × Mem)) (o : Nat) (x1 : Int32) (x3 : Int32) (x4 : Int32) (sx0 : Int32) (sx1 : Int32) (M : Mem) : Option (Int32 × Mem) :=
  bV (fX10_learn o (irm x4 (2 : Int32)) M) fun M1 =>
  k51 o x1 (sx0 + sx1) (x3 + (1 : Int32)) M1
def fX10_trace_51  : Nat → Nat → Int32 → Int32 → Int32 → Mem → Option (Int32 × Mem)
  | 0, _, _, _, _, _ => none
  | n + 1, o, x1, x2, x3, M =>
    ck (ib x1 4) <|
    if (M.1 (o + 34) (tn x1)) ≤ x3 then
      some (x2, M)
    else
      bL (fX10_numberIn o x1 x3 M) fun r2 M1 =>
      bV (fX10_ask o ((r2).toInt32 / (2 : Int32)) M1) fun M3 =>
      if (M3.1 o 54) = (irm (r2).toInt32 (2 : Int32)) then
        fX10_trace_95 (fX10_trace_51  n) o x1 x3 (r2).toInt32 x2 (0 : Int32) M3
      else
        fX10_trace_95 (fX10_trace_51  n) o x1 x3 (r2).toInt32 x2 (1 : Int32) M3
def fX10_trace (o : Nat) (x1 : Int32) (M : Mem) : Option (Int32 × Mem) :=
  bI (fX10_isSlot x1 M) fun r2 M1 =>
  if r2 = 0 then
    some ((-2 : Int32), M1)
  else
    bI (fX10_lays o M1) fun r4 M3 =>
    if r4 = 0 then
      some ((-2 : Int32), M3)
    else
      ck (ib x1 4) <|
      if (M3.1 (o + 34) (tn x1)) = (-1 : Int32) then
        some ((-6 : Int32), M3)
      else
        bI (fX10_areIn o x1 (127 : Int32) M3) fun r6 M5 =>
        if r6 = 0 then
          some ((-2 : Int32), M5)
        else
          bV (fX10_beginGuesser o M5) fun M7 =>
          fX10_trace_51  LF o x1 (0 : Int32) (0 : Int32) M7
def fX10_like_137 (k59 : Nat → Int32 → Int32 → Int32 → Mem → Option (Int32 × Mem)) (o : Nat) (x1 : Int32) (x3 : Int32) (sx0 : Int32) (sx1 : Int32) (M : Mem) : Option (Int32 × Mem) :=
  k59 o x1 (sx0 ||| sx1) (x3 + (1 : Int32)) M
def fX10_like_116 (k76 : Nat → Int32 → Int32 → Int32 → Int32 → Int32 → Mem → Option (Int32 × Mem)) (o : Nat) (x1 : Int32) (x2 : Int32) (x3 : Int32) (x5 : Int32) (sx0 : Int32) (M : Mem) : Option (Int32 × Mem) :=
  k76 o x1 x2 x3 sx0 (x5 + (1 : Int32)) M
def fX10_like_115 (k76 : Nat → Int32 → Int32 → Int32 → Int32 → Int32 → Mem → Option (Int32 × Mem)) (o : Nat) (x1 : Int32) (x2 : Int32) (x3 : Int32) (x5 : Int32) (M : Mem) : Option (Int32 × Mem) :=
  fX10_like_116 (k76) o x1 x2 x3 x5 (0 : Int32) M
def fX10_like_76 (k59 : Nat → Int32 → Int32 → Int32 → Mem → Option (Int32 × Mem)) : Nat → Nat → Int32 → Int32 → Int32 → Int32 → Int32 → Mem → Option (Int32 × Mem)
  | 0, _, _, _, _, _, _, _ => none
  | n + 1, o, x1, x2, x3, x4, x5, M =>
    ck (ib x1 4) <|
    if (M.1 (o + 34) (tn x1)) ≤ x5 then
      if x4 = 0 then
        fX10_like_137 (k59) o x1 x3 x2 (0 : Int32) M
      else
        fX10_like_137 (k59) o x1 x3 x2 ((1 : Int32) <<< (x3 &&& 31)) M
    else
      if x4 = 0 then
        fX10_like_115 (fX10_like_76 k59 n) o x1 x2 x3 x5 M
      else
        ck (ib x5 240) <|
        bL (fX10_numberIn o x1 x5 M) fun r2 M1 =>
        if (lg_cmp ((M.1 (o + 26) (tn x5))).toInt64 r2) = 0 then
          fX10_like_116 (fX10_like_76 k59 n) o x1 x2 x3 x5 (1 : Int32) M1
        else
          fX10_like_115 (fX10_like_76 k59 n) o x1 x2 x3 x5 M1
def fX10_like_59  : Nat → Nat → Int32 → Int32 → Int32 → Mem → Option (Int32 × Mem)
  | 0, _, _, _, _, _ => none
  | n + 1, o, x1, x2, x3, M =>
    if (8 : Int32) ≤ x3 then
      some (x2, M)
    else
      bV (fX10_playBy o x3 M) fun M1 =>
      fX10_like_76 (fX10_like_59  n) LF o x1 x2 x3 (1 : Int32) (0 : Int32) M1
def fX10_like (o : Nat) (x1 : Int32) (M : Mem) : Option (Int32 × Mem) :=
  bI (fX10_isSlot x1 M) fun r2 M1 =>
  if r2 = 0 then
    some ((-2 : Int32), M1)
  else
    bI (fX10_lays o M1) fun r4 M3 =>
    if r4 = 0 then
      some ((-2 : Int32), M3)
    else
      ck (ib x1 4) <|
      if (M3.1 (o + 34) (tn x1)) = (-1 : Int32) then
        some ((-6 : Int32), M3)
      else
        bI (fX10_areIn o x1 (1 : Int32) M3) fun r6 M5 =>
        if r6 = 0 then
          some ((-2 : Int32), M5)
        else
          ck (ib x1 4) <|
          if (M5.1 (o + 34) (tn x1)) ≤ (M5.1 o 23) then
            fX10_like_59  LF o x1 (0 : Int32) (0 : Int32) M5
          else
            some ((-2 : Int32), M5)
def fX10_meets (o : Nat) (x1 : Int32) (x2 : Int32) (M : Mem) : Option (Int32 × Mem) :=
  bI (fX10_isProgram o M) fun r2 M1 =>
  if r2 = 0 then
    some ((-2 : Int32), M1)
  else
    bI (fX10_isAddress (x1).toInt64 M1) fun r4 M3 =>
    if r4 = 0 then
      some ((-2 : Int32), M3)
    else
      bI (fX10_in (x2).toInt64 (0 : Int64) (1 : Int64) M3) fun r6 M5 =>
      if r6 = 0 then
        some ((-2 : Int32), M5)
      else
        ck (ib (8 : Int32) 215) <|
        if (M5.1 (o + 1) (tn (8 : Int32))) = (40 : Int32) then
          some ((-5 : Int32), M5)
        else
          ck (ib (8 : Int32) 215) <|
          ck (ib ((175 : Int32) + (M5.1 (o + 1) (tn (8 : Int32)))) 215) <|
          ck (ib (8 : Int32) 215) <|
          ck (ib (8 : Int32) 215) <|
          bI (fX10_asks o (pI (pI M5 (o + 1) (tn ((175 : Int32) + (M5.1 (o + 1) (tn (8 : Int32))))) (((2 : Int32) * x1) + x2)) (o + 1) (tn (8 : Int32)) (((pI M5 (o + 1) (tn ((175 : Int32) + (M5.1 (o + 1) (tn (8 : Int32))))) (((2 : Int32) * x1) + x2)).1 (o + 1) (tn (8 : Int32))) + (1 : Int32)))) fun r8 M7 =>
          bI (fX10_isWrong o ((M7.1 o 23) - (1 : Int32)) M7) fun r10 M9 =>
          if r10 = 0 then
            some ((1 : Int32), M9)
          else
            some ((0 : Int32), M9)
def fX10_undo (o : Nat) (M : Mem) : Option (Int32 × Mem) :=
  bI (fX10_isProgram o M) fun r2 M1 =>
  if r2 = 0 then
    some ((-2 : Int32), M1)
  else
    ck (ib (8 : Int32) 215) <|
    if (M1.1 (o + 1) (tn (8 : Int32))) = 0 then
      some ((-5 : Int32), M1)
    else
      ck (ib (8 : Int32) 215) <|
      ck (ib (8 : Int32) 215) <|
      ck (ib (8 : Int32) 215) <|
      some (((pI M1 (o + 1) (tn (8 : Int32)) ((M1.1 (o + 1) (tn (8 : Int32))) - (1 : Int32))).1 (o + 1) (tn (8 : Int32))), (pI M1 (o + 1) (tn (8 : Int32)) ((M1.1 (o + 1) (tn (8 : Int32))) - (1 : Int32))))
def fX10_anew (o : Nat) (M : Mem) : Option (Int32 × Mem) :=
  bI (fX10_isProgram o M) fun r2 M1 =>
  if r2 = 0 then
    some ((-2 : Int32), M1)
  else
    ck (ib (8 : Int32) 215) <|
    ck (ib (8 : Int32) 215) <|
    some ((M1.1 (o + 1) (tn (8 : Int32))), (pI M1 (o + 1) (tn (8 : Int32)) (0 : Int32)))
def fX10_count_113 (k92 : Nat → Int32 → Int32 → Mem → Option (Int32 × Mem)) (o : Nat) (x3 : Int32) (sx0 : Int32) (sx1 : Int32) (M : Mem) : Option (Int32 × Mem) :=
  k92 o (sx0 + sx1) (x3 + (1 : Int32)) M
def fX10_count_92  : Nat → Nat → Int32 → Int32 → Mem → Option (Int32 × Mem)
  | 0, _, _, _, _ => none
  | n + 1, o, x2, x3, M =>
    if (4 : Int32) ≤ x3 then
      some (x2, M)
    else
      ck (ib x3 4) <|
      if (M.1 (o + 34) (tn x3)) = (-1 : Int32) then
        fX10_count_113 (fX10_count_92  n) o x3 x2 (0 : Int32) M
      else
        fX10_count_113 (fX10_count_92  n) o x3 x2 (1 : Int32) M
def fX10_count (o : Nat) (x1 : Int32) (M : Mem) : Option (Int32 × Mem) :=
  bI (fX10_in (x1).toInt64 (0 : Int64) (7 : Int64) M) fun r2 M1 =>
  if r2 = 0 then
    if x1 = (8 : Int32) then
      bI (fX10_lays o M1) fun r4 M3 =>
      if r4 = 0 then
        some ((0 : Int32), M3)
      else
        some ((M3.1 o 22), M3)
    else
      if x1 = (9 : Int32) then
        ck (ib (8 : Int32) 215) <|
        some ((M1.1 (o + 1) (tn (8 : Int32))), M1)
      else
        if x1 = (10 : Int32) then
          ck (ib (9 : Int32) 215) <|
          some ((M1.1 (o + 1) (tn (9 : Int32))), M1)
        else
          if x1 = (11 : Int32) then
            some ((M1.1 o 5), M1)
          else
            if x1 = (12 : Int32) then
              fX10_count_92  LF o (0 : Int32) (0 : Int32) M1
            else
              some ((-1 : Int32), M1)
  else
    ck (ib x1 215) <|
    some ((M1.1 (o + 1) (tn x1)), M1)
def fX10_row_50  : Nat → Nat → Int32 → Int32 → Mem → Option (Int32 × Mem)
  | 0, _, _, _, _ => none
  | n + 1, o, x1, x4, M =>
    if (60 : Int32) ≤ x4 then
      some ((0 : Int32), M)
    else
      ck (ib (((60 : Int32) * x1) + x4) 240) <|
      fX10_row_50  n o x1 (x4 + (1 : Int32)) (pL M (o + 36) (tn (((60 : Int32) * x1) + x4)) (0 : Int64))
def fX10_row (o : Nat) (x1 : Int32) (x2 : Int32) (x3 : Int32) (M : Mem) : Option (Int32 × Mem) :=
  bI (fX10_isSlot x1 M) fun r2 M1 =>
  if r2 = 0 then
    some ((-2 : Int32), M1)
  else
    bI (fX10_in (x2).toInt64 (0 : Int64) (1 : Int64) M1) fun r4 M3 =>
    if r4 = 0 then
      some ((-2 : Int32), M3)
    else
      if x3 ≤ (60 : Int32) then
        if 0 ≤ x3 then
          ck (ib x1 4) <|
          ck (ib x1 4) <|
          fX10_row_50  LF o x1 (0 : Int32) (pI (pI M3 (o + 34) (tn x1) x3) (o + 35) (tn x1) x2)
        else
          some ((-3 : Int32), M3)
      else
        some ((-2 : Int32), M3)
def fX10_write (o : Nat) (x1 : Int32) (x2 : Int32) (l3 : Int64) (M : Mem) : Option (Int32 × Mem) :=
  bI (fX10_isSlot x1 M) fun r2 M1 =>
  if r2 = 0 then
    some ((-2 : Int32), M1)
  else
    ck (ib x1 4) <|
    if (M1.1 (o + 34) (tn x1)) = (-1 : Int32) then
      some ((-6 : Int32), M1)
    else
      ck (ib x1 4) <|
      bI (fX10_in (x2).toInt64 (0 : Int64) (((M1.1 (o + 34) (tn x1)) - (1 : Int32))).toInt64 M1) fun r4 M3 =>
      if r4 = 0 then
        some ((-7 : Int32), M3)
      else
        ck (ib x1 4) <|
        if (M3.1 (o + 35) (tn x1)) = 0 then
          ck (ib (((60 : Int32) * x1) + x2) 240) <|
          some ((0 : Int32), (pL M3 (o + 36) (tn (((60 : Int32) * x1) + x2)) ((l3).toInt32).toInt64))
        else
          ck (ib (((60 : Int32) * x1) + x2) 240) <|
          some ((0 : Int32), (pL M3 (o + 36) (tn (((60 : Int32) * x1) + x2)) l3))
def fX10_number (o : Nat) (x1 : Int32) (x2 : Int32) (M : Mem) : Option (Int64 × Mem) :=
  bI (fX10_isSlot x1 M) fun r2 M1 =>
  if r2 = 0 then
    some ((-1000 : Int64), M1)
  else
    ck (ib x1 4) <|
    if (M1.1 (o + 34) (tn x1)) = (-1 : Int32) then
      some ((-1000 : Int64), M1)
    else
      ck (ib x1 4) <|
      bI (fX10_in (x2).toInt64 (0 : Int64) (((M1.1 (o + 34) (tn x1)) - (1 : Int32))).toInt64 M1) fun r4 M3 =>
      if r4 = 0 then
        some ((-1000 : Int64), M3)
      else
        bL (fX10_numberIn o x1 x2 M3) fun r6 M5 =>
        some (r6, M5)
