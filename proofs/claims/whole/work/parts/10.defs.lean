def f_X5_goBackTo (a : Nat) (p0 : Nat) (M : Mm) : Option (Mm) :=
  bnd (up2 M a 11 (M p0 11)) fun M1 =>
  bnd (up2 M1 a 12 (M1 p0 12)) fun M2 =>
  ccp (0 : Int32) (0 : Int32) (120 : Int32) 120 120 <|
  bnd (va_up M2 (a + 3) (va_cpy (M2 (p0 + 3)) (M2 (a + 3)) (0 : Int32).toNatClampNeg (0 : Int32).toNatClampNeg (120 : Int32).toNatClampNeg)) fun M4 =>
  ccp (0 : Int32) (0 : Int32) (5 : Int32) 5 5 <|
  bnd (va_up M4 (a + 4) (va_cpy (M4 (p0 + 4)) (M4 (a + 4)) (0 : Int32).toNatClampNeg (0 : Int32).toNatClampNeg (5 : Int32).toNatClampNeg)) fun M6 =>
  ccp (0 : Int32) (0 : Int32) (M6 p0 10) 4 4 <|
  bnd (va_up M6 (a + 7) (va_cpy (M6 (p0 + 7)) (M6 (a + 7)) (0 : Int32).toNatClampNeg (0 : Int32).toNatClampNeg (M6 p0 10).toNatClampNeg)) fun M8 =>
  some (M8)
def f_X5_copy (a : Nat) (p0 : Nat) (M : Mm) : Option (Mm) :=
  bnd (up2 M a 9 (M p0 9)) fun M1 =>
  bnd (up2 M1 a 10 (M1 p0 10)) fun M2 =>
  ccp (0 : Int32) (0 : Int32) (5 : Int32) 5 5 <|
  bnd (va_up M2 (a + 1) (va_cpy (M2 (p0 + 1)) (M2 (a + 1)) (0 : Int32).toNatClampNeg (0 : Int32).toNatClampNeg (5 : Int32).toNatClampNeg)) fun M4 =>
  ccp (0 : Int32) (0 : Int32) (5 : Int32) 5 5 <|
  bnd (va_up M4 (a + 2) (va_cpy (M4 (p0 + 2)) (M4 (a + 2)) (0 : Int32).toNatClampNeg (0 : Int32).toNatClampNeg (5 : Int32).toNatClampNeg)) fun M6 =>
  ccp (0 : Int32) (0 : Int32) (4 : Int32) 4 4 <|
  bnd (va_up M6 (a + 5) (va_cpy (M6 (p0 + 5)) (M6 (a + 5)) (0 : Int32).toNatClampNeg (0 : Int32).toNatClampNeg (4 : Int32).toNatClampNeg)) fun M8 =>
  ccp (0 : Int32) (0 : Int32) (4 : Int32) 4 4 <|
  bnd (va_up M8 (a + 6) (va_cpy (M8 (p0 + 6)) (M8 (a + 6)) (0 : Int32).toNatClampNeg (0 : Int32).toNatClampNeg (4 : Int32).toNatClampNeg)) fun M10 =>
  ccp (0 : Int32) (0 : Int32) (4 : Int32) 4 4 <|
  bnd (va_up M10 (a + 8) (va_cpy (M10 (p0 + 8)) (M10 (a + 8)) (0 : Int32).toNatClampNeg (0 : Int32).toNatClampNeg (4 : Int32).toNatClampNeg)) fun M12 =>
  Option.bind (f_X5_goBackTo a p0 M12) fun M15 =>
  some (M15)
def f_X5_addMoon (a : Nat) (p0 : Int32) (p1 : Int32) (p2 : Int32) (p3 : Int32) (M : Mm) : Option (Int32 × Mm) :=
  ck (M a 10) 4 <|
  bnd (up2 M (a + 5) (M a 10).toNatClampNeg p0) fun M2 =>
  ck (M2 a 10) 4 <|
  bnd (up2 M2 (a + 6) (M2 a 10).toNatClampNeg p1) fun M4 =>
  ck (M4 a 10) 4 <|
  bnd (up2 M4 (a + 7) (M4 a 10).toNatClampNeg p2) fun M6 =>
  ck (M6 a 10) 4 <|
  bnd (up2 M6 (a + 8) (M6 a 10).toNatClampNeg p3) fun M8 =>
  bnd (up2 M8 a 10 ((M8 a 10) + (1 : Int32))) fun M9 =>
  some (((M9 a 10) - (1 : Int32)), M9)
def f_X5_keepMoons_J55 (a : Nat) (x1 : Int32) (x2 : Int32) (x3 : Int32) (M : Mm) (kb12 : Int32 → Int32 → Int32 → Mm → Option (Mm)) : Option (Mm) :=
    bnd (x3 + (1 : Int32)) fun z5 =>
    kb12 x1 x2 z5 M
def f_X5_keepMoons_L12 (a : Nat) : Nat → Int32 → Int32 → Int32 → Mm → Option (Mm)
  | 0, _, _, _, _ => none
  | n + 1, x1, x2, x3, M =>
      if x2 ≤ x3 then
        some (M)
      else
        if ((jsr x1 x3) &&& (1 : Int32)) = (1 : Int32) then
          ck x3 4 <|
          ck x3 4 <|
          ck x3 4 <|
          ck x3 4 <|
          bd2 (f_X5_addMoon a (M (a + 5) x3.toNatClampNeg) (M (a + 6) x3.toNatClampNeg) (M (a + 7) x3.toNatClampNeg) (M (a + 8) x3.toNatClampNeg) M) fun r10 M12 =>
          f_X5_keepMoons_J55 a x1 x2 x3 M12 (fun x1 x2 x3 M => f_X5_keepMoons_L12 a n x1 x2 x3 M)
        else
          f_X5_keepMoons_J55 a x1 x2 x3 M (fun x1 x2 x3 M => f_X5_keepMoons_L12 a n x1 x2 x3 M)
def f_X5_keepMoons (a : Nat) (p0 : Int32) (M : Mm) : Option (Mm) :=
  bnd (M a 10) fun z1 =>
  bnd (up2 M a 10 (0 : Int32)) fun M2 =>
  f_X5_keepMoons_L12 a 2000 p0 z1 (0 : Int32) M2
def f_X5_around (a : Nat) (p0 : Int32) (M : Mm) : Option (Int32) :=
  if (1 : Int32) ≤ (M a 9) then
    cz (M a 9) <|
    some ((jr p0 (M a 9)))
  else
    some ((0 : Int32))
def f_X5_moveMoon (a : Nat) (p0 : Int32) (p1 : Int32) (M : Mm) : Option (Mm) :=
  ck p0 4 <|
  Option.bind (f_X5_around a ((M (a + 7) p0.toNatClampNeg) + p1) M) fun r2 =>
  ck p0 4 <|
  bnd (up2 M (a + 7) p0.toNatClampNeg r2) fun M6 =>
  some (M6)
def f_X11_isLane (p0 : Int32) (M : Mm) : Option (Int32) :=
  if p0 < 0 then
    some ((0 : Int32))
  else
    if (5 : Int32) ≤ p0 then
      some ((0 : Int32))
    else
      some ((1 : Int32))
def f_X5_seat (a : Nat) (p0 : Int32) (p1 : Int32) (M : Mm) : Option (Int32) :=
  ck p0 5 <|
  bnd (p1 - (M (a + 4) p0.toNatClampNeg)) fun z2 =>
  if 0 ≤ z2 then
    some (((p0 * (24 : Int32)) + z2))
  else
    some (((p0 * (24 : Int32)) + (z2 + (M a 9))))
def f_X5_takeAll (a : Nat) (p0 : Int32) (p1 : Int32) (M : Mm) : Option (Int32 × Mm) :=
  Option.bind (f_X11_isLane p0 M) fun r1 =>
  if r1 = 0 then
    some ((0 : Int32), M)
  else
    Option.bind (f_X5_seat a p0 p1 M) fun r5 =>
    ck r5 120 <|
    bnd (M (a + 3) r5.toNatClampNeg) fun z9 =>
    ck r5 120 <|
    bnd (up2 M (a + 3) r5.toNatClampNeg (0 : Int32)) fun M11 =>
    some (z9, M11)
def f_X5_put (a : Nat) (p0 : Int32) (p1 : Int32) (p2 : Int32) (M : Mm) : Option (Int32 × Mm) :=
  Option.bind (f_X11_isLane p0 M) fun r1 =>
  if r1 = 0 then
    some (p2, M)
  else
    Option.bind (f_X5_seat a p0 p1 M) fun r5 =>
    ck r5 120 <|
    ck r5 120 <|
    bnd (up2 M (a + 3) r5.toNatClampNeg ((M (a + 3) r5.toNatClampNeg) + p2)) fun M10 =>
    some ((0 : Int32), M10)
def f_X5_passBy_L52 (a : Nat) : Nat → Int32 → Int32 → Int32 → Int32 → Int32 → Int32 → Mm → Option (Int32 × Mm)
  | 0, _, _, _, _, _, _, _ => none
  | n + 1, x1, x3, x4, x5, x6, x7, M =>
      if x5 < x7 then
        some (x6, M)
      else
        ck x1 4 <|
        Option.bind (f_X5_around a (((M (a + 7) x1.toNatClampNeg) + x7) + (M a 9)) M) fun r16 =>
        bd2 (f_X5_takeAll a x3 r16 M) fun r19 M21 =>
        bd2 (f_X5_takeAll a (x3 - (1 : Int32)) r16 M21) fun r22 M24 =>
        bd2 (f_X5_put a (x3 + x4) r16 r19 M24) fun r25 M27 =>
        bd2 (f_X5_put a ((x3 - (1 : Int32)) - x4) r16 r22 M27) fun r28 M30 =>
        bnd (x6 + (r25 + r28)) fun z31 =>
        bnd (x7 + (1 : Int32)) fun z32 =>
        f_X5_passBy_L52 a n x1 x3 x4 x5 z31 z32 M30
def f_X5_passBy (a : Nat) (p0 : Int32) (M : Mm) : Option (Int32 × Mm) :=
  ck p0 4 <|
  ck (M (a + 5) p0.toNatClampNeg) 5 <|
  bnd (M (a + 5) p0.toNatClampNeg).toNatClampNeg fun j3 =>
  Option.bind (v_isAwake j3 (M a 11)) fun r4 =>
  if r4 = 0 then
    some ((0 : Int32), M)
  else
    ck p0 4 <|
    bnd (M (a + 6) p0.toNatClampNeg) fun z8 =>
    Option.bind (v_force j3) fun r9 =>
    Option.bind (v_reach j3) fun r11 =>
    bnd (-r11) fun z13 =>
    f_X5_passBy_L52 a 2000 p0 z8 r9 r11 (0 : Int32) z13 M
def f_X5_goOn_L77 (a : Nat) : Nat → Int32 → Int32 → Mm → Option (Int32 × Mm)
  | 0, _, _, _ => none
  | n + 1, x1, x2, M =>
      if (M a 10) ≤ x2 then
        bnd (up2 M a 12 ((M a 12) + x1)) fun M5 =>
        some (x1, M5)
      else
        bd2 (f_X5_passBy a x2 M) fun r6 M8 =>
        bnd (x1 + r6) fun z9 =>
        bnd (x2 + (1 : Int32)) fun z10 =>
        f_X5_goOn_L77 a n z9 z10 M8
def f_X5_goOn_L48 (a : Nat) : Nat → Int32 → Mm → Option (Int32 × Mm)
  | 0, _, _ => none
  | n + 1, x1, M =>
      if (M a 10) ≤ x1 then
        f_X5_goOn_L77 a 2000 (0 : Int32) (0 : Int32) M
      else
        ck x1 4 <|
        Option.bind (f_X5_moveMoon a x1 (M (a + 8) x1.toNatClampNeg) M) fun M14 =>
        bnd (x1 + (1 : Int32)) fun z15 =>
        f_X5_goOn_L48 a n z15 M14
def f_X5_goOn_L12 (a : Nat) : Nat → Int32 → Mm → Option (Int32 × Mm)
  | 0, _, _ => none
  | n + 1, x1, M =>
      if (5 : Int32) ≤ x1 then
        f_X5_goOn_L48 a 2000 (0 : Int32) M
      else
        ck x1 5 <|
        ck x1 5 <|
        Option.bind (f_X5_around a ((M (a + 4) x1.toNatClampNeg) + (M (a + 1) x1.toNatClampNeg)) M) fun r18 =>
        ck x1 5 <|
        bnd (up2 M (a + 4) x1.toNatClampNeg r18) fun M22 =>
        bnd (x1 + (1 : Int32)) fun z23 =>
        f_X5_goOn_L12 a n z23 M22
def f_X5_goOn (a : Nat) (M : Mm) : Option (Int32 × Mm) :=
  bnd (up2 M a 11 ((M a 11) + (1 : Int32))) fun M1 =>
  f_X5_goOn_L12 a 2000 (0 : Int32) M1
def f_X5_goOnBy_L4 (a : Nat) : Nat → Int32 → Int32 → Int32 → Mm → Option (Int32 × Mm)
  | 0, _, _, _, _ => none
  | n + 1, x1, x2, x3, M =>
      if x1 ≤ x3 then
        some (x2, M)
      else
        bd2 (f_X5_goOn a M) fun r2 M4 =>
        bnd (x2 + r2) fun z5 =>
        bnd (x3 + (1 : Int32)) fun z6 =>
        f_X5_goOnBy_L4 a n x1 z5 z6 M4
def f_X5_goOnBy (a : Nat) (p0 : Int32) (M : Mm) : Option (Int32 × Mm) :=
  f_X5_goOnBy_L4 a 2000 p0 (0 : Int32) (0 : Int32) M
def f_J6_bitCount_0f7a4 (p0 : Int32) (M : Mm) : Option (Int32) :=
  bnd (p0 - ((jusr p0 (1 : Int32)) &&& (1431655765 : Int32))) fun z1 =>
  bnd ((z1 &&& (858993459 : Int32)) + ((jusr z1 (2 : Int32)) &&& (858993459 : Int32))) fun z2 =>
  bnd ((z2 + (jusr z2 (4 : Int32))) &&& (252645135 : Int32)) fun z3 =>
  bnd (z3 + (jusr z3 (8 : Int32))) fun z4 =>
  bnd (z4 + (jusr z4 (16 : Int32))) fun z5 =>
  some ((z5 &&& (63 : Int32)))
def f_X0_ordersBehind (cs : Nat) (r : Nat) (p0 : Int32) (M : Mm) : Option (Int64) :=
  Option.bind (f_J6_bitCount_0f7a4 p0 M) fun r1 =>
  bnd (((M r 10) - (1 : Int32)) - r1) fun z4 =>
  if 0 ≤ z4 then
    ck r1 5 <|
    ck z4 5 <|
    some ((((facts.getD r1.toNatClampNeg 0) * (facts.getD z4.toNatClampNeg 0)).toInt64))
  else
    some ((0 : Int64))
def f_X0_addedInAllOrders_J116 (cs : Nat) (r : Nat) (x3 : Int32) (x4 : Int32) (x5 : Int64) (x7 : Int32) (M : Mm) (kb71 : Int32 → Int32 → Int64 → Int32 → Mm → Option (Int64 × Mm)) : Option (Int64 × Mm) :=
    bnd (x7 + (1 : Int32)) fun z6 =>
    kb71 x3 x4 x5 z6 M
def f_X0_addedInAllOrders_L71 (cs : Nat) (r : Nat) : Nat → Int32 → Int32 → Int64 → Int32 → Mm → Option (Int64 × Mm)
  | 0, _, _, _, _, _ => none
  | n + 1, x3, x4, x5, x7, M =>
      if x3 ≤ x7 then
        some (x5, M)
      else
        if (x7 &&& x4) = 0 then
          Option.bind (f_X0_ordersBehind cs r x7 M) fun r7 =>
          ck (x7 ||| x4) 16 <|
          ck x7 16 <|
          bnd (x5 + (r7 * (((M (cs + 15) (x7 ||| x4).toNatClampNeg) - (M (cs + 15) x7.toNatClampNeg)).toInt64))) fun z12 =>
          f_X0_addedInAllOrders_J116 cs r x3 x4 z12 x7 M (fun x3 x4 x5 x7 M => f_X0_addedInAllOrders_L71 cs r n x3 x4 x5 x7 M)
        else
          f_X0_addedInAllOrders_J116 cs r x3 x4 x5 x7 M (fun x3 x4 x5 x7 M => f_X0_addedInAllOrders_L71 cs r n x3 x4 x5 x7 M)
def f_X0_addedInAllOrders_L13 (cs : Nat) (r : Nat) : Nat → Int32 → Int32 → Int32 → Int32 → Mm → Option (Int64 × Mm)
  | 0, _, _, _, _, _ => none
  | n + 1, x1, x2, x3, x4, M =>
      if x3 ≤ x4 then
        bnd (jsl (1 : Int32) x1) fun z3 =>
        f_X0_addedInAllOrders_L71 cs r 2000 x3 z3 (0 : Int64) (0 : Int32) M
      else
        Option.bind (f_X5_copy (cs + 1) r M) fun M15 =>
        Option.bind (f_X5_keepMoons (cs + 1) x4 M15) fun M18 =>
        bd2 (f_X5_goOnBy (cs + 1) x2 M18) fun r19 M21 =>
        ck x4 16 <|
        bnd (up2 M21 (cs + 15) x4.toNatClampNeg r19) fun M23 =>
        bnd (x4 + (1 : Int32)) fun z24 =>
        f_X0_addedInAllOrders_L13 cs r n x1 x2 x3 z24 M23
def f_X0_addedInAllOrders (cs : Nat) (r : Nat) (p0 : Int32) (p1 : Int32) (M : Mm) : Option (Int64 × Mm) :=
  bnd (jsl (1 : Int32) (M r 10)) fun z1 =>
  f_X0_addedInAllOrders_L13 cs r 2000 p0 p1 z1 (0 : Int32) M
def f_X0_aheadBy_J73 (rcf : Int32 → Int32 → Option Int32) (p0 : Nat) (p0n : Nat) (M : Mm) (x1 : Int32) (x2 : Int32) (x3 : Int32) (x4 : Int32) (x5 : Int32) (kb14 : Int32 → Int32 → Int32 → Int32 → Int32 → Option (Int32)) : Option (Int32) :=
    bnd (x5 + (1 : Int32)) fun z5 =>
    kb14 x1 x2 x3 x4 z5
def f_X0_aheadBy_J67 (rcf : Int32 → Int32 → Option Int32) (p0 : Nat) (p0n : Nat) (M : Mm) (x1 : Int32) (x2 : Int32) (x5 : Int32) (x6 : Int32) (kb14 : Int32 → Int32 → Int32 → Int32 → Int32 → Option (Int32)) : Option (Int32) :=
    f_X0_aheadBy_J73 rcf p0 p0n M x1 x2 (1 : Int32) x6 x5 kb14
def f_X0_aheadBy_L14 (rcf : Int32 → Int32 → Option Int32) (p0 : Nat) (p0n : Nat) (M : Mm) : Nat → Int32 → Int32 → Int32 → Int32 → Int32 → Option (Int32)
  | 0, _, _, _, _, _ => none
  | n + 1, x1, x2, x3, x4, x5 =>
      if (5 : Int32) ≤ x5 then
        some (x4)
      else
        ck x5 p0n <|
        if (M p0 x5.toNatClampNeg) ≤ 0 then
          f_X0_aheadBy_J73 rcf p0 p0n M x1 x2 x3 x4 x5 (fun x1 x2 x3 x4 x5 => f_X0_aheadBy_L14 rcf p0 p0n M n x1 x2 x3 x4 x5)
        else
          if ((jsr x1 x5) &&& (1 : Int32)) = 0 then
            ck x5 p0n <|
            Option.bind (rcf (x1 ||| (jsl (1 : Int32) x5)) (x2 - (1 : Int32))) fun r8 =>
            bnd ((M p0 x5.toNatClampNeg) - r8) fun z11 =>
            if x3 = 0 then
              f_X0_aheadBy_J67 rcf p0 p0n M x1 x2 x5 z11 (fun x1 x2 x3 x4 x5 => f_X0_aheadBy_L14 rcf p0 p0n M n x1 x2 x3 x4 x5)
            else
              if z11 ≤ x4 then
                f_X0_aheadBy_J73 rcf p0 p0n M x1 x2 x3 x4 x5 (fun x1 x2 x3 x4 x5 => f_X0_aheadBy_L14 rcf p0 p0n M n x1 x2 x3 x4 x5)
              else
                f_X0_aheadBy_J67 rcf p0 p0n M x1 x2 x5 z11 (fun x1 x2 x3 x4 x5 => f_X0_aheadBy_L14 rcf p0 p0n M n x1 x2 x3 x4 x5)
          else
            f_X0_aheadBy_J73 rcf p0 p0n M x1 x2 x3 x4 x5 (fun x1 x2 x3 x4 x5 => f_X0_aheadBy_L14 rcf p0 p0n M n x1 x2 x3 x4 x5)
def f_X0_aheadBy_b (rcf : Int32 → Int32 → Option Int32) (p0 : Nat) (p0n : Nat) (p1 : Int32) (p2 : Int32) (M : Mm) : Option (Int32) :=
  if 0 < p2 then
    f_X0_aheadBy_L14 rcf p0 p0n M 2000 p1 p2 (0 : Int32) (0 : Int32) (0 : Int32)
  else
    some ((0 : Int32))
def f_X0_aheadBy (p0 p0n : Nat) : Nat → Int32 → Int32 → Mm → Option (Int32)
  | 0, _, _, _ => none
  | d + 1, p1, p2, M => f_X0_aheadBy_b (fun q1 q2 => f_X0_aheadBy p0 p0n d q1 q2 M) p0 p0n p1 p2 M
def f_X0_bestMove_J70 (cs : Nat) (r : Nat) (x1 : Int32) (x2 : Int32) (x3 : Int32) (x4 : Int32) (x5 : Int32) (M : Mm) (kb8 : Int32 → Int32 → Int32 → Int32 → Int32 → Mm → Option (Int32 × Mm)) : Option (Int32 × Mm) :=
    bnd (x5 + (1 : Int32)) fun z12 =>
    kb8 x1 x2 x3 x4 z12 M
def f_X0_bestMove_J63 (cs : Nat) (r : Nat) (x1 : Int32) (x2 : Int32) (x5 : Int32) (x6 : Int32) (M : Mm) (kb8 : Int32 → Int32 → Int32 → Int32 → Int32 → Mm → Option (Int32 × Mm)) : Option (Int32 × Mm) :=
    f_X0_bestMove_J70 cs r x1 x2 x5 x6 x5 M kb8
def f_X0_bestMove_L8 (cs : Nat) (r : Nat) : Nat → Int32 → Int32 → Int32 → Int32 → Int32 → Mm → Option (Int32 × Mm)
  | 0, _, _, _, _, _, _ => none
  | n + 1, x1, x2, x3, x4, x5, M =>
      if (M r 9) ≤ x5 then
        some (x3, M)
      else
        Option.bind (f_X5_copy (cs + 1) r M) fun M4 =>
        Option.bind (f_X5_moveMoon (cs + 1) x1 x5 M4) fun M7 =>
        bd2 (f_X5_goOnBy (cs + 1) x2 M7) fun r8 M10 =>
        if x5 = 0 then
          f_X0_bestMove_J63 cs r x1 x2 x5 r8 M10 (fun x1 x2 x3 x4 x5 M => f_X0_bestMove_L8 cs r n x1 x2 x3 x4 x5 M)
        else
          if x4 ≤ r8 then
            f_X0_bestMove_J70 cs r x1 x2 x3 x4 x5 M10 (fun x1 x2 x3 x4 x5 M => f_X0_bestMove_L8 cs r n x1 x2 x3 x4 x5 M)
          else
            f_X0_bestMove_J63 cs r x1 x2 x5 r8 M10 (fun x1 x2 x3 x4 x5 M => f_X0_bestMove_L8 cs r n x1 x2 x3 x4 x5 M)
def f_X0_bestMove (cs : Nat) (r : Nat) (p0 : Int32) (p1 : Int32) (M : Mm) : Option (Int32 × Mm) :=
  f_X0_bestMove_L8 cs r 2000 p0 p1 (0 : Int32) (0 : Int32) (0 : Int32) M
def f_X0_cell (p0 : Int32) (p1 : Int32) (M : Mm) : Option (Int32) :=
  some (((p0 * (24 : Int32)) + p1))
def f_X0_costIfLeft (cs : Nat) (r : Nat) (p0 : Int32) (p1 : Int32) (M : Mm) : Option (Int32) :=
  Option.bind (f_X11_isLane p0 M) fun r1 =>
  if r1 = 0 then
    some ((1000 : Int32))
  else
    Option.bind (f_X0_cell p0 p1 M) fun r5 =>
    ck r5 120 <|
    some ((M (cs + 13) r5.toNatClampNeg))
def f_X5_lumpsIn_L10 (a : Nat) (M : Mm) : Nat → Int32 → Int32 → Int32 → Option (Int32)
  | 0, _, _, _ => none
  | n + 1, x2, x3, x4 =>
      if (x3 + (M a 9)) ≤ x4 then
        some (x2)
      else
        ck x4 120 <|
        bnd (x2 + (M (a + 3) x4.toNatClampNeg)) fun z4 =>
        bnd (x4 + (1 : Int32)) fun z5 =>
        f_X5_lumpsIn_L10 a M n z4 x3 z5
def f_X5_lumpsIn (a : Nat) (p0 : Int32) (M : Mm) : Option (Int32) :=
  bnd (p0 * (24 : Int32)) fun z1 =>
  f_X5_lumpsIn_L10 a M 2000 (0 : Int32) z1 z1
def f_X0_sumLanes_L2 (cs : Nat) (r : Nat) : Nat → Int32 → Mm → Option (Mm)
  | 0, _, _ => none
  | n + 1, x1, M =>
      if (5 : Int32) ≤ x1 then
        some (M)
      else
        Option.bind (f_X5_lumpsIn r x1 M) fun r2 =>
        ck x1 5 <|
        bnd (up2 M (cs + 11) x1.toNatClampNeg r2) fun M6 =>
        bnd (x1 + (1 : Int32)) fun z7 =>
        f_X0_sumLanes_L2 cs r n z7 M6
def f_X0_sumLanes (cs : Nat) (r : Nat) (M : Mm) : Option (Mm) :=
  f_X0_sumLanes_L2 cs r 2000 (0 : Int32) M
def f_X0_farmerAhead (cs : Nat) (r : Nat) (p0 : Int32) (M : Mm) : Option (Int32 × Mm) :=
  Option.bind (f_X0_sumLanes cs r M) fun M3 =>
  Option.bind (f_X0_aheadBy (cs + 11) 5 8 (0 : Int32) p0 M3) fun r4 =>
  some (r4, M3)
def f_J7_fill_53178_L5 (p0 : Nat) (p0n : Nat) : Nat → Int32 → Int32 → Int32 → Mm → Option (Mm)
  | 0, _, _, _, _ => none
  | n + 1, x1, x2, x3, M =>
      if x3 ≤ x2 then
        some (M)
      else
        ck x2 p0n <|
        bnd (up2 M p0 x2.toNatClampNeg x1) fun M4 =>
        bnd (x2 + (1 : Int32)) fun z5 =>
        f_J7_fill_53178_L5 p0 p0n n x1 z5 x3 M4
def f_J7_fill_53178 (p0 : Nat) (p0n : Nat) (p1 : Int32) (M : Mm) : Option (Mm) :=
  bnd (Int32.ofNat p0n) fun z1 =>
  f_J7_fill_53178_L5 p0 p0n 2000 p1 (0 : Int32) z1 M
def f_X2_lie (a : Nat) (p0 : Int32) (p1 : Int32) (M : Mm) : Option (Mm) :=
  bnd (up2 M a 0 p0) fun M1 =>
  bnd (up2 M1 a 1 p1) fun M2 =>
  bnd (up2 M2 a 2 (0 : Int32)) fun M3 =>
  some (M3)
def f_X2_isLost (a : Nat) (M : Mm) : Option (Int32) :=
  Option.bind (f_X11_isLane (M a 0) M) fun r1 =>
  if r1 = 0 then
    some ((1 : Int32))
  else
    some ((0 : Int32))
def f_X5_pushOf_J24 (a : Nat) (M : Mm) (x1 : Int32) (x2 : Int32) (x3 : Int32) (x4 : Int32) (x5 : Int32) : Option (Int32) :=
    ck x1 4 <|
    ck (M (a + 5) x1.toNatClampNeg) 5 <|
    bnd (M (a + 5) x1.toNatClampNeg).toNatClampNeg fun j6 =>
    Option.bind (v_isAwake j6 ((M a 11) + x2)) fun r7 =>
    if r7 = 0 then
      some ((0 : Int32))
    else
      ck x1 4 <|
      ck x1 4 <|
      Option.bind (f_X5_around a ((M (a + 7) x1.toNatClampNeg) + (x2 * (M (a + 8) x1.toNatClampNeg))) M) fun r12 =>
      Option.bind (f_X5_around a ((x4 - r12) + (M a 9)) M) fun r15 =>
      Option.bind (v_reach j6) fun r18 =>
      if (jmin r15 ((M a 9) - r15)) ≤ r18 then
        if x3 = x5 then
          Option.bind (v_force j6) fun r24 =>
          some (r24)
        else
          Option.bind (v_force j6) fun r22 =>
          some ((-r22))
      else
        some ((0 : Int32))
def f_X5_pushOf (a : Nat) (p0 : Int32) (p1 : Int32) (p2 : Int32) (p3 : Int32) (M : Mm) : Option (Int32) :=
  ck p0 4 <|
  bnd (M (a + 6) p0.toNatClampNeg) fun z2 =>
  if p2 = z2 then
    f_X5_pushOf_J24 a M p0 p1 p2 p3 z2
  else
    if p2 = (z2 - (1 : Int32)) then
      f_X5_pushOf_J24 a M p0 p1 p2 p3 z2
    else
      some ((0 : Int32))
def f_X2_goOn_J89 (a : Nat) (p0 : Nat) (x2 : Int32) (x3 : Int32) (M : Mm) (kb32 : Int32 → Int32 → Mm → Option (Mm)) : Option (Mm) :=
    bnd (x3 + (1 : Int32)) fun z19 =>
    kb32 x2 z19 M
def f_X2_goOn_L32 (a : Nat) (p0 : Nat) : Nat → Int32 → Int32 → Mm → Option (Mm)
  | 0, _, _, _ => none
  | n + 1, x2, x3, M =>
      if (M p0 10) ≤ x3 then
        some (M)
      else
        Option.bind (f_X2_isLost a M) fun r11 =>
        if r11 = 0 then
          Option.bind (f_X5_pushOf p0 x3 x2 (M a 0) (M a 1) M) fun r15 =>
          if r15 = 0 then
            f_X2_goOn_J89 a p0 x2 x3 M (fun x2 x3 M => f_X2_goOn_L32 a p0 n x2 x3 M)
          else
            bnd (up2 M a 0 ((M a 0) + r15)) fun M20 =>
            bnd (up2 M20 a 2 ((M20 a 2) + (1 : Int32))) fun M21 =>
            f_X2_goOn_J89 a p0 x2 x3 M21 (fun x2 x3 M => f_X2_goOn_L32 a p0 n x2 x3 M)
        else
          some (M)
def f_X2_goOn (a : Nat) (p0 : Nat) (p1 : Int32) (M : Mm) : Option (Mm) :=
  Option.bind (f_X2_isLost a M) fun r1 =>
  if r1 = 0 then
    ck (M a 0) 5 <|
    Option.bind (f_X5_around p0 ((M a 1) + (M (p0 + 1) (M a 0).toNatClampNeg)) M) fun r6 =>
    bnd (up2 M a 1 r6) fun M9 =>
    f_X2_goOn_L32 a p0 2000 p1 (0 : Int32) M9
  else
    some (M)
def f_X0_leaveInRound_J88 (cs : Nat) (r : Nat) (x1 : Int32) (x2 : Int32) (x3 : Int32) (s1 : Int32) (s2 : Int32) (M : Mm) (kb2 : Int32 → Int32 → Mm → Option (Mm)) (kb9 : Int32 → Int32 → Int32 → Mm → Option (Mm)) : Option (Mm) :=
    ck s1 120 <|
    bnd (up2 M (cs + 13) s1.toNatClampNeg s2) fun M22 =>
    bnd (x3 + (1 : Int32)) fun z23 =>
    kb9 x1 x2 z23 M22
def f_X0_leaveInRound_L9 (cs : Nat) (r : Nat) (kb2 : Int32 → Int32 → Mm → Option (Mm)) : Nat → Int32 → Int32 → Int32 → Mm → Option (Mm)
  | 0, _, _, _, _ => none
  | n + 1, x1, x2, x3, M =>
      if (M r 9) ≤ x3 then
        bnd (x2 + (1 : Int32)) fun z3 =>
        kb2 x1 z3 M
      else
        Option.bind (f_X2_lie (cs + 10) x2 x3 M) fun M6 =>
        Option.bind (f_X2_goOn (cs + 10) r x1 M6) fun M9 =>
        Option.bind (f_X0_cell x2 x3 M9) fun r10 =>
        Option.bind (f_X2_isLost (cs + 10) M9) fun r13 =>
        if r13 = 0 then
          Option.bind (f_X0_cell (M9 (cs + 10) 0) (M9 (cs + 10) 1) M9) fun r17 =>
          ck r17 120 <|
          f_X0_leaveInRound_J88 cs r x1 x2 x3 r10 (M9 (cs + 12) r17.toNatClampNeg) M9 kb2 (fun x1 x2 x3 M => f_X0_leaveInRound_L9 cs r kb2 n x1 x2 x3 M)
        else
          f_X0_leaveInRound_J88 cs r x1 x2 x3 r10 (1000 : Int32) M9 kb2 (fun x1 x2 x3 M => f_X0_leaveInRound_L9 cs r kb2 n x1 x2 x3 M)
def f_X0_leaveInRound_L2 (cs : Nat) (r : Nat) : Nat → Int32 → Int32 → Mm → Option (Mm)
  | 0, _, _, _ => none
  | n + 1, x1, x2, M =>
      if (5 : Int32) ≤ x2 then
        some (M)
      else
        f_X0_leaveInRound_L9 cs r (fun x1 x2 M => f_X0_leaveInRound_L2 cs r n x1 x2 M) 2000 x1 x2 (0 : Int32) M
def f_X0_leaveInRound (cs : Nat) (r : Nat) (p0 : Int32) (M : Mm) : Option (Mm) :=
  f_X0_leaveInRound_L2 cs r 2000 p0 (0 : Int32) M
def f_X0_pushAheadOfRound_L9 (cs : Nat) (r : Nat) (kb2 : Int32 → Mm → Option (Mm)) : Nat → Int32 → Int32 → Mm → Option (Mm)
  | 0, _, _, _ => none
  | n + 1, x1, x2, M =>
      if (M r 9) ≤ x2 then
        bnd (x1 + (1 : Int32)) fun z3 =>
        kb2 z3 M
      else
        Option.bind (f_X0_costIfLeft cs r (x1 - (1 : Int32)) x2 M) fun r4 =>
        Option.bind (f_X0_costIfLeft cs r (x1 + (1 : Int32)) x2 M) fun r7 =>
        bnd ((1 : Int32) + (jmin r4 r7)) fun z10 =>
        Option.bind (f_X0_cell x1 x2 M) fun r11 =>
        Option.bind (f_X0_costIfLeft cs r x1 x2 M) fun r14 =>
        ck r11 120 <|
        bnd (up2 M (cs + 12) r11.toNatClampNeg (jmin r14 z10)) fun M18 =>
        bnd (x2 + (1 : Int32)) fun z19 =>
        f_X0_pushAheadOfRound_L9 cs r kb2 n x1 z19 M18
def f_X0_pushAheadOfRound_L2 (cs : Nat) (r : Nat) : Nat → Int32 → Mm → Option (Mm)
  | 0, _, _ => none
  | n + 1, x1, M =>
      if (5 : Int32) ≤ x1 then
        some (M)
      else
        f_X0_pushAheadOfRound_L9 cs r (fun x1 M => f_X0_pushAheadOfRound_L2 cs r n x1 M) 2000 x1 (0 : Int32) M
def f_X0_pushAheadOfRound (cs : Nat) (r : Nat) (M : Mm) : Option (Mm) :=
  f_X0_pushAheadOfRound_L2 cs r 2000 (0 : Int32) M
def f_X5_lumpsAt (a : Nat) (p0 : Int32) (p1 : Int32) (M : Mm) : Option (Int32) :=
  Option.bind (f_X5_seat a p0 p1 M) fun r1 =>
  ck r1 120 <|
  some ((M (a + 3) r1.toNatClampNeg))
def f_X0_fewestPushes_J94 (cs : Nat) (r : Nat) (x2 : Int32) (x3 : Int32) (x4 : Int32) (x5 : Int32) (x6 : Int32) (M : Mm) (kb34 : Int32 → Int32 → Mm → Option (Int32 × Mm)) (kb42 : Int32 → Int32 → Int32 → Mm → Option (Int32 × Mm)) : Option (Int32 × Mm) :=
    bnd (x2 + (x5 * x6)) fun z17 =>
    bnd (x4 + (1 : Int32)) fun z18 =>
    kb42 z17 x3 z18 M
def f_X0_fewestPushes_L42 (cs : Nat) (r : Nat) (kb34 : Int32 → Int32 → Mm → Option (Int32 × Mm)) : Nat → Int32 → Int32 → Int32 → Mm → Option (Int32 × Mm)
  | 0, _, _, _, _ => none
  | n + 1, x2, x3, x4, M =>
      if (M r 9) ≤ x4 then
        bnd (x3 + (1 : Int32)) fun z7 =>
        kb34 x2 z7 M
      else
        Option.bind (f_X5_lumpsAt r x3 x4 M) fun r8 =>
        Option.bind (f_X0_cell x3 x4 M) fun r11 =>
        ck r11 120 <|
        bnd (M (cs + 12) r11.toNatClampNeg) fun z15 =>
        if r8 ≤ 0 then
          f_X0_fewestPushes_J94 cs r x2 x3 x4 r8 z15 M kb34 (fun x2 x3 x4 M => f_X0_fewestPushes_L42 cs r kb34 n x2 x3 x4 M)
        else
          if z15 < (1000 : Int32) then
            f_X0_fewestPushes_J94 cs r x2 x3 x4 r8 z15 M kb34 (fun x2 x3 x4 M => f_X0_fewestPushes_L42 cs r kb34 n x2 x3 x4 M)
          else
            some ((-1 : Int32), M)
def f_X0_fewestPushes_L34 (cs : Nat) (r : Nat) : Nat → Int32 → Int32 → Mm → Option (Int32 × Mm)
  | 0, _, _, _ => none
  | n + 1, x2, x3, M =>
      if (5 : Int32) ≤ x3 then
        some (x2, M)
      else
        f_X0_fewestPushes_L42 cs r (fun x2 x3 M => f_X0_fewestPushes_L34 cs r n x2 x3 M) 2000 x2 x3 (0 : Int32) M
def f_X0_fewestPushes_L10 (cs : Nat) (r : Nat) : Nat → Int32 → Mm → Option (Int32 × Mm)
  | 0, _, _ => none
  | n + 1, x2, M =>
      if x2 < (1 : Int32) then
        f_X0_fewestPushes_L34 cs r 2000 (0 : Int32) (0 : Int32) M
      else
        Option.bind (f_X0_leaveInRound cs r x2 M) fun M22 =>
        Option.bind (f_X0_pushAheadOfRound cs r M22) fun M25 =>
        bnd (x2 + (-1 : Int32)) fun z26 =>
        f_X0_fewestPushes_L10 cs r n z26 M25
def f_X0_fewestPushes (cs : Nat) (r : Nat) (p0 : Int32) (M : Mm) : Option (Int32 × Mm) :=
  Option.bind (f_J7_fill_53178 (cs + 12) 120 (0 : Int32) M) fun M3 =>
  f_X0_fewestPushes_L10 cs r 2000 p0 M3
def f_X0_follow_L12 (cs : Nat) (r : Nat) : Nat → Int32 → Int32 → Mm → Option (Mm)
  | 0, _, _, _ => none
  | n + 1, x3, x4, M =>
      if x3 < x4 then
        some (M)
      else
        Option.bind (f_X2_isLost (cs + 10) M) fun r5 =>
        if r5 = 0 then
          Option.bind (f_X2_goOn (cs + 10) r x4 M) fun M11 =>
          bnd (x4 + (1 : Int32)) fun z12 =>
          f_X0_follow_L12 cs r n x3 z12 M11
        else
          some (M)
def f_X0_follow (cs : Nat) (r : Nat) (p0 : Int32) (p1 : Int32) (p2 : Int32) (M : Mm) : Option (Mm) :=
  Option.bind (f_X2_lie (cs + 10) p0 p1 M) fun M3 =>
  f_X0_follow_L12 cs r 2000 p2 (1 : Int32) M3
def f_X0_fitsWithout_J41 (cs : Nat) (r : Nat) (x1 : Int32) (x2 : Int32) (x4 : Int32) (x5 : Int32) (s0 : Int32) (M : Mm) (kb15 : Int32 → Int32 → Int32 → Int32 → Mm → Option (Int32 × Mm)) : Option (Int32 × Mm) :=
    Option.bind (f_X5_lumpsIn (cs + 1) x5 M) fun r7 =>
    ck x5 5 <|
    if (r7 - s0) = (M (r + 2) x5.toNatClampNeg) then
      bnd (x5 + (1 : Int32)) fun z12 =>
      kb15 x1 x2 x4 z12 M
    else
      some ((0 : Int32), M)
def f_X0_fitsWithout_L15 (cs : Nat) (r : Nat) : Nat → Int32 → Int32 → Int32 → Int32 → Mm → Option (Int32 × Mm)
  | 0, _, _, _, _, _ => none
  | n + 1, x1, x2, x4, x5, M =>
      if (5 : Int32) ≤ x5 then
        some ((1 : Int32), M)
      else
        if x5 = x4 then
          Option.bind (f_X5_lumpsAt r x1 x2 M) fun r13 =>
          f_X0_fitsWithout_J41 cs r x1 x2 x4 x5 r13 M (fun x1 x2 x4 x5 M => f_X0_fitsWithout_L15 cs r n x1 x2 x4 x5 M)
        else
          f_X0_fitsWithout_J41 cs r x1 x2 x4 x5 (0 : Int32) M (fun x1 x2 x4 x5 M => f_X0_fitsWithout_L15 cs r n x1 x2 x4 x5 M)
def f_X0_fitsWithout (cs : Nat) (r : Nat) (p0 : Int32) (p1 : Int32) (p2 : Int32) (M : Mm) : Option (Int32 × Mm) :=
  Option.bind (f_X0_follow cs r p0 p1 p2 M) fun M3 =>
  bnd (M3 (cs + 10) 0) fun z4 =>
  f_X0_fitsWithout_L15 cs r 2000 p0 p1 z4 (0 : Int32) M3
def f_X0_findTaken_J84 (cs : Nat) (r : Nat) (x1 : Int32) (x2 : Int32) (x3 : Int32) (x4 : Int32) (M : Mm) (kb24 : Int32 → Int32 → Int32 → Mm → Option (Int32 × Mm)) (kb32 : Int32 → Int32 → Int32 → Int32 → Mm → Option (Int32 × Mm)) : Option (Int32 × Mm) :=
    bnd (x4 + (1 : Int32)) fun z14 =>
    kb32 x1 x2 x3 z14 M
def f_X0_findTaken_L32 (cs : Nat) (r : Nat) (kb24 : Int32 → Int32 → Int32 → Mm → Option (Int32 × Mm)) : Nat → Int32 → Int32 → Int32 → Int32 → Mm → Option (Int32 × Mm)
  | 0, _, _, _, _, _ => none
  | n + 1, x1, x2, x3, x4, M =>
      if (M r 9) ≤ x4 then
        bnd (x3 + (1 : Int32)) fun z9 =>
        kb24 x1 x2 z9 M
      else
        Option.bind (f_X5_lumpsAt r x3 x4 M) fun r10 =>
        if r10 ≤ 0 then
          f_X0_findTaken_J84 cs r x1 x2 x3 x4 M kb24 (fun x1 x2 x3 x4 M => f_X0_findTaken_L32 cs r kb24 n x1 x2 x3 x4 M)
        else
          bd2 (f_X0_fitsWithout cs r x3 x4 x1 M) fun r15 M17 =>
          if r15 = 0 then
            f_X0_findTaken_J84 cs r x1 x2 x3 x4 M17 kb24 (fun x1 x2 x3 x4 M => f_X0_findTaken_L32 cs r kb24 n x1 x2 x3 x4 M)
          else
            ck x2 120 <|
            bnd (up2 M17 (cs + 14) x2.toNatClampNeg (((100 : Int32) * x3) + x4)) fun M20 =>
            bnd (x2 + (1 : Int32)) fun z21 =>
            f_X0_findTaken_J84 cs r x1 z21 x3 x4 M20 kb24 (fun x1 x2 x3 x4 M => f_X0_findTaken_L32 cs r kb24 n x1 x2 x3 x4 M)
def f_X0_findTaken_L24 (cs : Nat) (r : Nat) : Nat → Int32 → Int32 → Int32 → Mm → Option (Int32 × Mm)
  | 0, _, _, _, _ => none
  | n + 1, x1, x2, x3, M =>
      if (5 : Int32) ≤ x3 then
        some (x2, M)
      else
        f_X0_findTaken_L32 cs r (fun x1 x2 x3 M => f_X0_findTaken_L24 cs r n x1 x2 x3 M) 2000 x1 x2 x3 (0 : Int32) M
def f_X0_findTaken (cs : Nat) (r : Nat) (p0 : Int32) (M : Mm) : Option (Int32 × Mm) :=
  Option.bind (f_X5_copy (cs + 1) r M) fun M3 =>
  bd2 (f_X5_goOnBy (cs + 1) p0 M3) fun r4 M6 =>
  f_X0_findTaken_L24 cs r 2000 p0 (0 : Int32) (0 : Int32) M6
def f_X0_firstTaken_J48 (cs : Nat) (r : Nat) (x1 : Int32) (x2 : Int32) (x3 : Int32) (M : Mm) (kb8 : Int32 → Int32 → Int32 → Mm → Option (Int32 × Mm)) : Option (Int32 × Mm) :=
    bnd (x3 + (1 : Int32)) fun z7 =>
    kb8 x1 x2 z7 M
def f_X0_firstTaken_L8 (cs : Nat) (r : Nat) : Nat → Int32 → Int32 → Int32 → Mm → Option (Int32 × Mm)
  | 0, _, _, _, _ => none
  | n + 1, x1, x2, x3, M =>
      if (5 : Int32) ≤ x3 then
        some ((-1 : Int32), M)
      else
        ck x3 5 <|
        if (M (cs + 11) x3.toNatClampNeg) ≤ 0 then
          f_X0_firstTaken_J48 cs r x1 x2 x3 M (fun x1 x2 x3 M => f_X0_firstTaken_L8 cs r n x1 x2 x3 M)
        else
          ck x3 5 <|
          Option.bind (f_X0_aheadBy (cs + 11) 5 8 (jsl (1 : Int32) x3) (x1 - (1 : Int32)) M) fun r9 =>
          if ((M (cs + 11) x3.toNatClampNeg) - r9) = x2 then
            some (x3, M)
          else
            f_X0_firstTaken_J48 cs r x1 x2 x3 M (fun x1 x2 x3 M => f_X0_firstTaken_L8 cs r n x1 x2 x3 M)
def f_X0_firstTaken (cs : Nat) (r : Nat) (p0 : Int32) (M : Mm) : Option (Int32 × Mm) :=
  bd2 (f_X0_farmerAhead cs r p0 M) fun r1 M3 =>
  f_X0_firstTaken_L8 cs r 2000 p0 r1 (0 : Int32) M3
def f_X0_lossIn (cs : Nat) (r : Nat) (p0 : Int32) (M : Mm) : Option (Int32 × Mm) :=
  Option.bind (f_X5_copy (cs + 1) r M) fun M3 =>
  bd2 (f_X5_goOnBy (cs + 1) p0 M3) fun r4 M6 =>
  some (r4, M6)
def f_X5_isClear_L2 (a : Nat) (M : Mm) : Nat → Int32 → Int32 → Option (Int32)
  | 0, _, _ => none
  | n + 1, x1, x2 =>
      if (5 : Int32) ≤ x2 then
        some ((1 : Int32))
      else
        Option.bind (f_X5_lumpsAt a x2 x1 M) fun r2 =>
        if r2 ≤ 0 then
          bnd (x2 + (1 : Int32)) fun z6 =>
          f_X5_isClear_L2 a M n x1 z6
        else
          some ((0 : Int32))
def f_X5_isClear (a : Nat) (p0 : Int32) (M : Mm) : Option (Int32) :=
  f_X5_isClear_L2 a M 2000 p0 (0 : Int32)
def f_X0_roadLasts_L3 (cs : Nat) (r : Nat) : Nat → Int32 → Int32 → Int32 → Int32 → Mm → Option (Int32 × Mm)
  | 0, _, _, _, _, _ => none
  | n + 1, x1, x2, x3, x4, M =>
      if x2 < x4 then
        some ((x4 - x3), M)
      else
        Option.bind (f_X5_isClear (cs + 1) x1 M) fun r2 =>
        if r2 = 0 then
          some ((x4 - x3), M)
        else
          bd2 (f_X5_goOn (cs + 1) M) fun r6 M8 =>
          bnd (x4 + (1 : Int32)) fun z9 =>
          f_X0_roadLasts_L3 cs r n x1 x2 x3 z9 M8
def f_X0_roadLasts (cs : Nat) (r : Nat) (p0 : Int32) (p1 : Int32) (p2 : Int32) (M : Mm) : Option (Int32 × Mm) :=
  f_X0_roadLasts_L3 cs r 2000 p0 p1 p2 p2 M
def f_X0_roadOpens_L13 (cs : Nat) (r : Nat) : Nat → Int32 → Int32 → Int32 → Mm → Option (Int32 × Mm)
  | 0, _, _, _, _ => none
  | n + 1, x1, x2, x3, M =>
      if x2 < x3 then
        some ((-1 : Int32), M)
      else
        Option.bind (f_X5_isClear (cs + 1) x1 M) fun r5 =>
        if r5 = 0 then
          bd2 (f_X5_goOn (cs + 1) M) fun r9 M11 =>
          bnd (x3 + (1 : Int32)) fun z12 =>
          f_X0_roadOpens_L13 cs r n x1 x2 z12 M11
        else
          some (x3, M)
def f_X0_roadOpens (cs : Nat) (r : Nat) (p0 : Int32) (p1 : Int32) (M : Mm) : Option (Int32 × Mm) :=
  Option.bind (f_X5_copy (cs + 1) r M) fun M3 =>
  f_X0_roadOpens_L13 cs r 2000 p0 p1 (0 : Int32) M3
def f_X0_takenAt (cs : Nat) (r : Nat) (p0 : Int32) (M : Mm) : Option (Int32) :=
  ck p0 120 <|
  some ((M (cs + 14) p0.toNatClampNeg))
def f_X11_isWithin (p0 : Int32) (p1 : Int32) (p2 : Int32) (M : Mm) : Option (Int32) :=
  if p0 < p1 then
    some ((0 : Int32))
  else
    if p2 < p0 then
      some ((0 : Int32))
    else
      some ((1 : Int32))
def f_X11_isMoon (x : Nat) (p0 : Int32) (M : Mm) : Option (Int32) :=
  Option.bind (f_X11_isWithin p0 (0 : Int32) ((M (x + 7 + 1) 10) - (1 : Int32)) M) fun r1 =>
  cb r1 <|
  some (r1)
def f_X11_refuse (x : Nat) (p0 : Int32) (p1 : Int32) (M : Mm) : Option (Int32 × Mm) :=
  ck p0 3 <|
  ck p0 3 <|
  bnd (up2 M (x + 233) p0.toNatClampNeg ((M (x + 233) p0.toNatClampNeg) + (1 : Int32))) fun M3 =>
  some (p1, M3)
def f_X5_aboutMoon (a : Nat) (p0 : Int32) (p1 : Int32) (M : Mm) : Option (Int32) :=
  if p1 = (0 : Int32) then
    ck p0 4 <|
    some ((M (a + 5) p0.toNatClampNeg))
  else
    if p1 = (1 : Int32) then
      ck p0 4 <|
      some ((M (a + 6) p0.toNatClampNeg))
    else
      if p1 = (2 : Int32) then
        ck p0 4 <|
        some ((M (a + 7) p0.toNatClampNeg))
      else
        ck p0 4 <|
        some ((M (a + 8) p0.toNatClampNeg))
def f_X11_about_J17 (x : Nat) (M : Mm) : Option (Int32 × Mm) :=
    bd2 (f_X11_refuse x (0 : Int32) (-2 : Int32) M) fun r5 M7 =>
    some (r5, M7)
def f_X11_about (x : Nat) (p0 : Int32) (p1 : Int32) (M : Mm) : Option (Int32 × Mm) :=
  Option.bind (f_X11_isMoon x p0 M) fun r1 =>
  if r1 = 0 then
    f_X11_about_J17 x M
  else
    Option.bind (f_X11_isWithin p1 (0 : Int32) (3 : Int32) M) fun r8 =>
    if r8 = 0 then
      f_X11_about_J17 x M
    else
      Option.bind (f_X5_aboutMoon (x + 7 + 1) p0 p1 M) fun r12 =>
      some (r12, M)
def f_X5_isRoundBehind_L32 (a : Nat) (M : Mm) : Nat → Int32 → Int32 → Option (Int32)
  | 0, _, _ => none
  | n + 1, x1, x2 =>
      if (M a 10) ≤ x2 then
        some ((1 : Int32))
      else
        ck x2 4 <|
        Option.bind (f_X5_around a (x1 * (M (a + 8) x2.toNatClampNeg)) M) fun r4 =>
        if r4 = 0 then
          bnd (x2 + (1 : Int32)) fun z8 =>
          f_X5_isRoundBehind_L32 a M n x1 z8
        else
          some ((0 : Int32))
def f_X5_isRoundBehind_L2 (a : Nat) (M : Mm) : Nat → Int32 → Int32 → Option (Int32)
  | 0, _, _ => none
  | n + 1, x1, x2 =>
      if (5 : Int32) ≤ x2 then
        f_X5_isRoundBehind_L32 a M 2000 x1 (0 : Int32)
      else
        ck x2 5 <|
        Option.bind (f_X5_around a (x1 * (M (a + 1) x2.toNatClampNeg)) M) fun r10 =>
        if r10 = 0 then
          bnd (x2 + (1 : Int32)) fun z14 =>
          f_X5_isRoundBehind_L2 a M n x1 z14
        else
          some ((0 : Int32))
def f_X5_isRoundBehind (a : Nat) (p0 : Int32) (M : Mm) : Option (Int32) :=
  f_X5_isRoundBehind_L2 a M 2000 p0 (0 : Int32)
def f_X5_comesRound_L2 (a : Nat) (M : Mm) : Nat → Int32 → Option (Int32)
  | 0, _ => none
  | n + 1, x1 =>
      if (M a 9) ≤ x1 then
        some (x1)
      else
        Option.bind (f_X5_isRoundBehind a x1 M) fun r2 =>
        if r2 = 0 then
          bnd (x1 + (1 : Int32)) fun z6 =>
          f_X5_comesRound_L2 a M n z6
        else
          some (x1)
def f_X5_comesRound (a : Nat) (M : Mm) : Option (Int32) :=
  f_X5_comesRound_L2 a M 2000 (1 : Int32)
def f_X11_back (x : Nat) (M : Mm) : Option (Int32) :=
  Option.bind (f_X5_comesRound (x + 7 + 1) M) fun r1 =>
  some (r1)
def f_X11_clear (x : Nat) (M : Mm) : Option (Int32 × Mm) :=
  bnd (M (x + 220) 1) fun z1 =>
  bnd (up2 M (x + 220) 1 (0 : Int32)) fun M2 =>
  some (z1, M2)
def f_X5_lumpsInAll_L4 (a : Nat) (M : Mm) : Nat → Int32 → Int32 → Option (Int32)
  | 0, _, _ => none
  | n + 1, x1, x2 =>
      if (5 : Int32) ≤ x2 then
        some (x1)
      else
        Option.bind (f_X5_lumpsIn a x2 M) fun r2 =>
        bnd (x1 + r2) fun z5 =>
        bnd (x2 + (1 : Int32)) fun z6 =>
        f_X5_lumpsInAll_L4 a M n z5 z6
def f_X5_lumpsInAll (a : Nat) (M : Mm) : Option (Int32) :=
  f_X5_lumpsInAll_L4 a M 2000 (0 : Int32) (0 : Int32)
def f_X11_counted (x : Nat) (p0 : Int32) (M : Mm) : Option (Int32) :=
  if p0 = (0 : Int32) then
    some ((M (x + 7 + 1) 9))
  else
    if p0 = (1 : Int32) then
      Option.bind (f_X5_lumpsInAll (x + 7 + 1) M) fun r3 =>
      some (r3)
    else
      if p0 = (2 : Int32) then
        some ((M (x + 7 + 1) 10))
      else
        if p0 = (3 : Int32) then
          some ((M (x + 7 + 1) 11))
        else
          if p0 = (4 : Int32) then
            some ((M (x + 7 + 1) 12))
          else
            if p0 = (5 : Int32) then
              some ((M (x + 7) 3))
            else
              some ((M (x + 220) 1))
def f_X11_count (x : Nat) (p0 : Int32) (M : Mm) : Option (Int32 × Mm) :=
  Option.bind (f_X11_isWithin p0 (0 : Int32) (6 : Int32) M) fun r1 =>
  if r1 = 0 then
    bd2 (f_X11_refuse x (0 : Int32) (-2 : Int32) M) fun r8 M10 =>
    some (r8, M10)
  else
    Option.bind (f_X11_counted x p0 M) fun r5 =>
    some (r5, M)
def f_X5_addTo_L96 (a : Nat) (M : Mm) (kb84 : Int64 → Int32 → Option (Int64)) : Nat → Int64 → Int32 → Int32 → Option (Int64)
  | 0, _, _, _ => none
  | n + 1, x3, x5, x6 =>
      if (4 : Int32) ≤ x6 then
        bnd (x5 + (1 : Int32)) fun z4 =>
        kb84 x3 z4
      else
        Option.bind (f_X5_aboutMoon a x5 x6 M) fun r5 =>
        bnd (((31 : Int64) * x3) + r5.toInt64) fun z8 =>
        bnd (x6 + (1 : Int32)) fun z9 =>
        f_X5_addTo_L96 a M kb84 n z8 x5 z9
def f_X5_addTo_L84 (a : Nat) (M : Mm) : Nat → Int64 → Int32 → Option (Int64)
  | 0, _, _ => none
  | n + 1, x3, x5 =>
      if (M a 10) ≤ x5 then
        some (x3)
      else
        f_X5_addTo_L96 a M (fun x3 x5 => f_X5_addTo_L84 a M n x3 x5) 2000 x3 x5 (0 : Int32)
def f_X5_addTo_L44 (a : Nat) (M : Mm) (kb5 : Int64 → Int32 → Option (Int64)) : Nat → Int64 → Int32 → Int32 → Option (Int64)
  | 0, _, _, _ => none
  | n + 1, x3, x5, x6 =>
      if (M a 9) ≤ x6 then
        bnd (x5 + (1 : Int32)) fun z15 =>
        kb5 x3 z15
      else
        Option.bind (f_X5_lumpsAt a x5 x6 M) fun r16 =>
        bnd (((31 : Int64) * x3) + r16.toInt64) fun z19 =>
        bnd (x6 + (1 : Int32)) fun z20 =>
        f_X5_addTo_L44 a M kb5 n z19 x5 z20
def f_X5_addTo_L5 (a : Nat) (M : Mm) : Nat → Int64 → Int32 → Option (Int64)
  | 0, _, _ => none
  | n + 1, x3, x5 =>
      if (5 : Int32) ≤ x5 then
        f_X5_addTo_L84 a M 2000 x3 (0 : Int32)
      else
        ck x5 5 <|
        bnd (((31 : Int64) * x3) + ((M (a + 1) x5.toNatClampNeg).toInt64)) fun z11 =>
        ck x5 5 <|
        bnd (((31 : Int64) * z11) + ((M (a + 2) x5.toNatClampNeg).toInt64)) fun z13 =>
        f_X5_addTo_L44 a M (fun x3 x5 => f_X5_addTo_L5 a M n x3 x5) 2000 z13 x5 (0 : Int32)
def f_X5_addTo (a : Nat) (p0 : Int64) (M : Mm) : Option (Int64) :=
  f_X5_addTo_L5 a M 2000 p0 (0 : Int32)
def f_X11_digest_L6 (x : Nat) (M : Mm) (N : Ml) : Nat → Int64 → Int32 → Option (Int64)
  | 0, _, _ => none
  | n + 1, x1, x3 =>
      if (7 : Int32) ≤ x3 then
        Option.bind (f_X5_addTo (x + 7 + 1) x1 M) fun r2 =>
        bnd (((31 : Int64) * r2) + (N x 7)) fun z5 =>
        some ((((31 : Int64) * z5) + (N x 8)))
      else
        Option.bind (f_X11_counted x x3 M) fun r6 =>
        bnd (((31 : Int64) * x1) + r6.toInt64) fun z9 =>
        bnd (x3 + (1 : Int32)) fun z10 =>
        f_X11_digest_L6 x M N n z9 z10
def f_X11_digest (x : Nat) (M : Mm) (N : Ml) : Option (Int64) :=
  f_X11_digest_L6 x M N 2000 (821 : Int64) (0 : Int32)
def f_X11_isRounds (p0 : Int32) (M : Mm) : Option (Int32) :=
  Option.bind (f_X11_isWithin p0 (0 : Int32) (60 : Int32) M) fun r1 =>
  cb r1 <|
  some (r1)
def f_X11_greatestDivisor_L9 (M : Mm) : Nat → Int64 → Int64 → Int32 → Option (Int64)
  | 0, _, _, _ => none
  | n + 1, x4, x6, x8 =>
      if (200 : Int32) ≤ x8 then
        some (x4)
      else
        if (lg_cmp x6 (0 : Int64)) = 0 then
          some (x4)
        else
          czL x6 <|
          bnd (jrL x4 x6) fun z4 =>
          bnd (x8 + (1 : Int32)) fun z5 =>
          f_X11_greatestDivisor_L9 M n x6 z4 z5
def f_X11_greatestDivisor (p0 : Int64) (p1 : Int64) (M : Mm) : Option (Int64) :=
  f_X11_greatestDivisor_L9 M 2000 p0 p1 (0 : Int32)
def f_X11_fee_J15 (x : Nat) (M : Mm) (N : Ml) : Option (Int32 × Mm × Ml) :=
    bd2 (f_X11_refuse x (0 : Int32) (-2 : Int32) M) fun r5 M7 =>
    some (r5, M7, N)
def f_X11_fee (x : Nat) (p0 : Int32) (p1 : Int32) (M : Mm) (N : Ml) : Option (Int32 × Mm × Ml) :=
  Option.bind (f_X11_isMoon x p0 M) fun r1 =>
  if r1 = 0 then
    f_X11_fee_J15 x M N
  else
    Option.bind (f_X11_isRounds p1 M) fun r8 =>
    if r8 = 0 then
      f_X11_fee_J15 x M N
    else
      bd2 (f_X0_addedInAllOrders (x + 204) (x + 7 + 1) p0 p1 M) fun r12 M14 =>
      ck (M14 (x + 7 + 1) 10) 5 <|
      bnd ((facts.getD (M14 (x + 7 + 1) 10).toNatClampNeg 0).toInt64) fun z16 =>
      Option.bind (f_X11_greatestDivisor (jabs r12) z16 M14) fun r17 =>
      if (lg_cmp r17 (0 : Int64)) ≤ 0 then
        some ((1 : Int32), M14, N)
      else
        czL r17 <|
        bnd (up2L N x 7 (r12 / r17)) fun N22 =>
        czL r17 <|
        bnd (up2L N22 x 8 (z16 / r17)) fun N24 =>
        some ((1 : Int32), M14, N24)
def f_X7_copy_L13 (b : Nat) (p0 : Nat) : Nat → Int32 → Mm → Option (Mm)
  | 0, _, _ => none
  | n + 1, x2, M =>
      if (6 : Int32) ≤ x2 then
        bnd (up2 M b 2 (M p0 2)) fun M5 =>
        bnd (up2 M5 b 3 (M5 p0 3)) fun M6 =>
        some (M6)
      else
        ck x2 6 <|
        bnd x2.toNatClampNeg fun j8 =>
        ck x2 6 <|
        bnd x2.toNatClampNeg fun j10 =>
        Option.bind (f_X5_copy (b + 11 + 9 * j8) (p0 + 11 + 9 * j10) M) fun M13 =>
        bnd (x2 + (1 : Int32)) fun z14 =>
        f_X7_copy_L13 b p0 n z14 M13
def f_X7_copy (b : Nat) (p0 : Nat) (M : Mm) : Option (Mm) :=
  Option.bind (f_X5_copy (b + 1) (p0 + 1) M) fun M3 =>
  f_X7_copy_L13 b p0 2000 (0 : Int32) M3
def f_X11_from (x : Nat) (p0 : Int32) (M : Mm) : Option (Int32 × Mm) :=
  Option.bind (f_X11_isWithin p0 (0 : Int32) (1 : Int32) M) fun r1 =>
  if r1 = 0 then
    bd2 (f_X11_refuse x (0 : Int32) (-2 : Int32) M) fun r15 M17 =>
    some (r15, M17)
  else
    ck p0 2 <|
    if (M (x + 203) p0.toNatClampNeg) = 0 then
      bd2 (f_X11_refuse x (1 : Int32) (-3 : Int32) M) fun r12 M14 =>
      some (r12, M14)
    else
      ck p0 2 <|
      bnd p0.toNatClampNeg fun j8 =>
      Option.bind (f_X7_copy (x + 7) (x + 73 + 65 * j8) M) fun M11 =>
      some ((1 : Int32), M11)
def f_X11_game_J19 (x : Nat) (M : Mm) : Option (Int32 × Mm) :=
    bd2 (f_X11_refuse x (0 : Int32) (-100000 : Int32) M) fun r5 M7 =>
    some (r5, M7)
def f_X11_game (x : Nat) (p0 : Int32) (p1 : Int32) (M : Mm) : Option (Int32 × Mm) :=
  Option.bind (f_X11_isWithin p0 (1 : Int32) (6 : Int32) M) fun r1 =>
  if r1 = 0 then
    f_X11_game_J19 x M
  else
    Option.bind (f_X11_isWithin p1 (0 : Int32) (1 : Int32) M) fun r8 =>
    if r8 = 0 then
      f_X11_game_J19 x M
    else
      if p1 = 0 then
        bd2 (f_X0_farmerAhead (x + 204) (x + 7 + 1) p0 M) fun r16 M18 =>
        some (r16, M18)
      else
        bd2 (f_X0_firstTaken (x + 204) (x + 7 + 1) p0 M) fun r13 M15 =>
        some (r13, M15)
def f_X11_image (x : Nat) (p0 : Int32) (M : Mm) : Option (Int32 × Mm) :=
  Option.bind (f_X11_isWithin p0 (0 : Int32) (1 : Int32) M) fun r1 =>
  if r1 = 0 then
    bd2 (f_X11_refuse x (0 : Int32) (-2 : Int32) M) fun r12 M14 =>
    some (r12, M14)
  else
    ck p0 2 <|
    bnd p0.toNatClampNeg fun j6 =>
    Option.bind (f_X7_copy (x + 73 + 65 * j6) (x + 7) M) fun M9 =>
    ck p0 2 <|
    bnd (up2 M9 (x + 203) p0.toNatClampNeg (1 : Int32)) fun M11 =>
    some ((1 : Int32), M11)
def f_X11_isPlace (x : Nat) (p0 : Int32) (M : Mm) : Option (Int32) :=
  Option.bind (f_X11_isWithin p0 (0 : Int32) ((M (x + 7 + 1) 9) - (1 : Int32)) M) fun r1 =>
  cb r1 <|
  some (r1)
def f_X11_loss (x : Nat) (p0 : Int32) (M : Mm) : Option (Int32 × Mm) :=
  Option.bind (f_X11_isRounds p0 M) fun r1 =>
  if r1 = 0 then
    bd2 (f_X11_refuse x (0 : Int32) (-2 : Int32) M) fun r8 M10 =>
    some (r8, M10)
  else
    bd2 (f_X0_lossIn (x + 204) (x + 7 + 1) p0 M) fun r5 M7 =>
    some (r5, M7)
def f_X5_setLumps (a : Nat) (p0 : Int32) (p1 : Int32) (p2 : Int32) (M : Mm) : Option (Mm) :=
  Option.bind (f_X5_seat a p0 p1 M) fun r1 =>
  ck r1 120 <|
  bnd (up2 M (a + 3) r1.toNatClampNeg p2) fun M5 =>
  some (M5)
def f_X11_lumps_J26 (x : Nat) (M : Mm) : Option (Int32 × Mm) :=
    bd2 (f_X11_refuse x (0 : Int32) (-2 : Int32) M) fun r5 M7 =>
    some (r5, M7)
def f_X11_lumps (x : Nat) (p0 : Int32) (p1 : Int32) (p2 : Int32) (M : Mm) : Option (Int32 × Mm) :=
  Option.bind (f_X11_isLane p0 M) fun r1 =>
  if r1 = 0 then
    f_X11_lumps_J26 x M
  else
    Option.bind (f_X11_isPlace x p1 M) fun r8 =>
    if r8 = 0 then
      f_X11_lumps_J26 x M
    else
      Option.bind (f_X11_isWithin p2 (0 : Int32) (999 : Int32) M) fun r12 =>
      if r12 = 0 then
        f_X11_lumps_J26 x M
      else
        Option.bind (f_X5_lumpsAt (x + 7 + 1) p0 p1 M) fun r16 =>
        Option.bind (f_X5_setLumps (x + 7 + 1) p0 p1 p2 M) fun M21 =>
        some (r16, M21)
def f_X11_moon_J37 (x : Nat) (M : Mm) : Option (Int32 × Mm) :=
    bd2 (f_X11_refuse x (0 : Int32) (-2 : Int32) M) fun r5 M7 =>
    some (r5, M7)
def f_X11_moon (x : Nat) (p0 : Int32) (p1 : Int32) (p2 : Int32) (p3 : Int32) (M : Mm) : Option (Int32 × Mm) :=
  Option.bind (f_X11_isWithin p0 (0 : Int32) (4 : Int32) M) fun r1 =>
  if r1 = 0 then
    f_X11_moon_J37 x M
  else
    Option.bind (f_X11_isWithin p1 (0 : Int32) (5 : Int32) M) fun r8 =>
    if r8 = 0 then
      f_X11_moon_J37 x M
    else
      Option.bind (f_X11_isPlace x p2 M) fun r12 =>
      if r12 = 0 then
        f_X11_moon_J37 x M
      else
        Option.bind (f_X11_isWithin p3 (0 : Int32) (9 : Int32) M) fun r16 =>
        if r16 = 0 then
          f_X11_moon_J37 x M
        else
          if (M (x + 7 + 1) 10) < (4 : Int32) then
            bd2 (f_X5_addMoon (x + 7 + 1) p0 p1 p2 p3 M) fun r21 M23 =>
            some (r21, M23)
          else
            bd2 (f_X11_refuse x (2 : Int32) (-4 : Int32) M) fun r24 M26 =>
            some (r24, M26)
def f_X11_moved_J15 (x : Nat) (M : Mm) : Option (Int32 × Mm) :=
    bd2 (f_X11_refuse x (0 : Int32) (-2 : Int32) M) fun r5 M7 =>
    some (r5, M7)
def f_X11_moved (x : Nat) (p0 : Int32) (p1 : Int32) (M : Mm) : Option (Int32 × Mm) :=
  Option.bind (f_X11_isMoon x p0 M) fun r1 =>
  if r1 = 0 then
    f_X11_moved_J15 x M
  else
    Option.bind (f_X11_isRounds p1 M) fun r8 =>
    if r8 = 0 then
      f_X11_moved_J15 x M
    else
      bd2 (f_X0_bestMove (x + 204) (x + 7 + 1) p0 p1 M) fun r12 M14 =>
      some (r12, M14)
def f_X11_part (x : Nat) (p0 : Int32) (M : Mm) (N : Ml) : Option (Int64 × Mm) :=
  Option.bind (f_X11_isWithin p0 (0 : Int32) (1 : Int32) M) fun r1 =>
  if r1 = 0 then
    bd2 (f_X11_refuse x (0 : Int32) (-100000 : Int32) M) fun r6 M8 =>
    some (r6.toInt64, M8)
  else
    if p0 = 0 then
      some ((N x 7), M)
    else
      some ((N x 8), M)
def f_X11_pushes (x : Nat) (p0 : Int32) (M : Mm) : Option (Int32 × Mm) :=
  Option.bind (f_X11_isWithin p0 (0 : Int32) (12 : Int32) M) fun r1 =>
  if r1 = 0 then
    bd2 (f_X11_refuse x (0 : Int32) (-2 : Int32) M) fun r8 M10 =>
    some (r8, M10)
  else
    bd2 (f_X0_fewestPushes (x + 204) (x + 7 + 1) p0 M) fun r5 M7 =>
    some (r5, M7)
def f_X9_rewind (t : Nat) (M : Mm) : Option (Mm) :=
  bnd (up2 M t 2 (0 : Int32)) fun M1 =>
  bnd (up2 M1 t 3 (0 : Int32)) fun M2 =>
  bnd (up2 M2 t 4 (0 : Int32)) fun M3 =>
  some (M3)
def f_X9_begunBy_J28 (M : Mm) (x0 : Int32) : Option (Int32) :=
    if x0 = (59 : Int32) then
      some ((3 : Int32))
    else
      some ((4 : Int32))
def f_X9_begunBy_J14 (M : Mm) (x0 : Int32) : Option (Int32) :=
    if x0 < (48 : Int32) then
      f_X9_begunBy_J28 M x0
    else
      if (57 : Int32) < x0 then
        f_X9_begunBy_J28 M x0
      else
        some ((2 : Int32))
def f_X9_begunBy (p0 : Int32) (M : Mm) : Option (Int32) :=
  if p0 < (97 : Int32) then
    f_X9_begunBy_J14 M p0
  else
    if (122 : Int32) < p0 then
      f_X9_begunBy_J14 M p0
    else
      some ((1 : Int32))
def f_X9_nextToken_J155 (t : Nat) (M : Mm) : Option (Mm) :=
    if (M t 2) = (2 : Int32) then
      if ((M t 4) - (M t 3)) ≤ (3 : Int32) then
        some (M)
      else
        bnd (up2 M t 2 (4 : Int32)) fun M10 =>
        some (M10)
    else
      some (M)
def f_X9_nextToken_J112 (t : Nat) (M : Mm) (kb96 : Mm → Option (Mm)) : Option (Mm) :=
    if (M t 1) ≤ (M t 4) then
      f_X9_nextToken_J155 t M
    else
      ck (M t 4) 250 <|
      Option.bind (f_X9_begunBy (M (t + 1) (M t 4).toNatClampNeg) M) fun r12 =>
      if r12 = (M t 2) then
        bnd (up2 M t 4 ((M t 4) + (1 : Int32))) fun M16 =>
        kb96 M16
      else
        f_X9_nextToken_J155 t M
def f_X9_nextToken_L96 (t : Nat) : Nat → Mm → Option (Mm)
  | 0, _ => none
  | n + 1, M =>
      if (M t 2) = (1 : Int32) then
        f_X9_nextToken_J112 t M (fun M => f_X9_nextToken_L96 t n M)
      else
        if (M t 2) = (2 : Int32) then
          f_X9_nextToken_J112 t M (fun M => f_X9_nextToken_L96 t n M)
        else
          f_X9_nextToken_J155 t M
def f_X9_nextToken_J46 (t : Nat) (M : Mm) : Option (Mm) :=
    bnd (up2 M t 4 (M t 3)) fun M3 =>
    bnd (up2 M3 t 2 (0 : Int32)) fun M4 =>
    if (M4 t 1) ≤ (M4 t 3) then
      f_X9_nextToken_L96 t 2000 M4
    else
      ck (M4 t 3) 250 <|
      Option.bind (f_X9_begunBy (M4 (t + 1) (M4 t 3).toNatClampNeg) M4) fun r19 =>
      bnd (up2 M4 t 2 r19) fun M22 =>
      bnd (up2 M22 t 4 ((M22 t 4) + (1 : Int32))) fun M23 =>
      f_X9_nextToken_L96 t 2000 M23
def f_X9_nextToken_L8 (t : Nat) : Nat → Mm → Option (Mm)
  | 0, _ => none
  | n + 1, M =>
      if (M t 1) ≤ (M t 3) then
        f_X9_nextToken_J46 t M
      else
        ck (M t 3) 250 <|
        if (M (t + 1) (M t 3).toNatClampNeg) = (32 : Int32) then
          bnd (up2 M t 3 ((M t 3) + (1 : Int32))) fun M26 =>
          f_X9_nextToken_L8 t n M26
        else
          f_X9_nextToken_J46 t M
def f_X9_nextToken (t : Nat) (M : Mm) : Option (Mm) :=
  bnd (up2 M t 3 (M t 4)) fun M1 =>
  f_X9_nextToken_L8 t 2000 M1
def f_X9_isWord_L28 (t : Nat) (p0 : Nat) (M : Mm) : Nat → Int32 → Option (Int32)
  | 0, _ => none
  | n + 1, x2 =>
      if (Int32.ofNat (txLen.getD p0 0)) ≤ x2 then
        some ((1 : Int32))
      else
        ck ((M t 3) + x2) 250 <|
        ck x2 (txLen.getD p0 0) <|
        if (M (t + 1) ((M t 3) + x2).toNatClampNeg) = ((txByt.getD p0 []).getD x2.toNatClampNeg 0) then
          bnd (x2 + (1 : Int32)) fun z7 =>
          f_X9_isWord_L28 t p0 M n z7
        else
          some ((0 : Int32))
def f_X9_isWord (t : Nat) (p0 : Nat) (M : Mm) : Option (Int32) :=
  if (M t 2) = (1 : Int32) then
    if ((M t 4) - (M t 3)) = (Int32.ofNat (txLen.getD p0 0)) then
      f_X9_isWord_L28 t p0 M 2000 (0 : Int32)
    else
      some ((0 : Int32))
  else
    some ((0 : Int32))
def f_X9_number_L17 (t : Nat) (M : Mm) : Nat → Int32 → Int32 → Option (Int32)
  | 0, _, _ => none
  | n + 1, x1, x2 =>
      if (M t 4) ≤ x2 then
        some (x1)
      else
        ck x2 250 <|
        bnd ((((10 : Int32) * x1) + (M (t + 1) x2.toNatClampNeg)) - (48 : Int32)) fun z5 =>
        bnd (x2 + (1 : Int32)) fun z6 =>
        f_X9_number_L17 t M n z5 z6
def f_X9_number (t : Nat) (M : Mm) : Option (Int32) :=
  if (M t 2) = (2 : Int32) then
    bnd (M t 3) fun z2 =>
    f_X9_number_L17 t M 2000 (0 : Int32) z2
  else
    some ((-1 : Int32))
def f_X4_takeNumber (rd : Nat) (t : Nat) (p0 : Int32) (p1 : Int32) (p2 : Int32) (M : Mm) : Option (Int32 × Mm) :=
  Option.bind (f_X9_nextToken t M) fun M3 =>
  Option.bind (f_X9_number t M3) fun r4 =>
  ck p0 4 <|
  bnd (up2 M3 (rd + 10) p0.toNatClampNeg r4) fun M8 =>
  ck p0 4 <|
  Option.bind (f_X11_isWithin (M8 (rd + 10) p0.toNatClampNeg) p1 p2 M8) fun r10 =>
  cb r10 <|
  some (r10, M8)
def f_X4_takeSemicolon (rd : Nat) (t : Nat) (M : Mm) : Option (Int32 × Mm) :=
  Option.bind (f_X9_nextToken t M) fun M3 =>
  if (M3 t 2) = (3 : Int32) then
    some ((1 : Int32), M3)
  else
    some ((0 : Int32), M3)
def f_X5_begin_L22 (a : Nat) : Nat → Int32 → Mm → Option (Mm)
  | 0, _, _ => none
  | n + 1, x2, M =>
      if (5 : Int32) ≤ x2 then
        Option.bind (f_J7_fill_53178 (a + 2) 5 (0 : Int32) M) fun M8 =>
        Option.bind (f_J7_fill_53178 (a + 3) 120 (0 : Int32) M8) fun M11 =>
        Option.bind (f_J7_fill_53178 (a + 4) 5 (0 : Int32) M11) fun M14 =>
        some (M14)
      else
        ck x2 5 <|
        bnd (up2 M (a + 1) x2.toNatClampNeg ((5 : Int32) - x2)) fun M16 =>
        bnd (x2 + (1 : Int32)) fun z17 =>
        f_X5_begin_L22 a n z17 M16
def f_X5_begin (a : Nat) (p0 : Int32) (M : Mm) : Option (Mm) :=
  bnd (up2 M a 9 p0) fun M1 =>
  bnd (up2 M1 a 10 (0 : Int32)) fun M2 =>
  bnd (up2 M2 a 11 (0 : Int32)) fun M3 =>
  bnd (up2 M3 a 12 (0 : Int32)) fun M4 =>
  f_X5_begin_L22 a 2000 (0 : Int32) M4
def f_X4_readRing (rd : Nat) (t : Nat) (M : Mm) : Option (Int32 × Mm) :=
  Option.bind (f_X9_isWord t 0 M) fun r1 =>
  if r1 = 0 then
    some ((0 : Int32), M)
  else
    bd2 (f_X4_takeNumber rd t (0 : Int32) (4 : Int32) (24 : Int32) M) fun r5 M7 =>
    if r5 = 0 then
      some ((0 : Int32), M7)
    else
      bd2 (f_X4_takeSemicolon rd t M7) fun r9 M11 =>
      if r9 = 0 then
        some ((0 : Int32), M11)
      else
        ck (0 : Int32) 4 <|
        Option.bind (f_X5_begin (rd + 1) (M11 (rd + 10) (0 : Int32).toNatClampNeg) M11) fun M16 =>
        some ((1 : Int32), M16)
def f_X4_readStep (rd : Nat) (t : Nat) (M : Mm) : Option (Int32 × Mm) :=
  bd2 (f_X4_takeNumber rd t (0 : Int32) (0 : Int32) (4 : Int32) M) fun r1 M3 =>
  if r1 = 0 then
    some ((0 : Int32), M3)
  else
    bd2 (f_X4_takeNumber rd t (1 : Int32) (0 : Int32) (9 : Int32) M3) fun r5 M7 =>
    if r5 = 0 then
      some ((0 : Int32), M7)
    else
      bd2 (f_X4_takeSemicolon rd t M7) fun r9 M11 =>
      if r9 = 0 then
        some ((0 : Int32), M11)
      else
        ck (0 : Int32) 4 <|
        ck (1 : Int32) 4 <|
        ck (M11 (rd + 10) (0 : Int32).toNatClampNeg) 5 <|
        bnd (up2 M11 (rd + 1 + 1) (M11 (rd + 10) (0 : Int32).toNatClampNeg).toNatClampNeg (M11 (rd + 10) (1 : Int32).toNatClampNeg)) fun M16 =>
        some ((1 : Int32), M16)
def f_X4_readLumps (rd : Nat) (t : Nat) (M : Mm) : Option (Int32 × Mm) :=
  bd2 (f_X4_takeNumber rd t (0 : Int32) (0 : Int32) (4 : Int32) M) fun r1 M3 =>
  if r1 = 0 then
    some ((0 : Int32), M3)
  else
    bd2 (f_X4_takeNumber rd t (1 : Int32) (0 : Int32) ((M3 (rd + 1) 9) - (1 : Int32)) M3) fun r5 M7 =>
    if r5 = 0 then
      some ((0 : Int32), M7)
    else
      bd2 (f_X4_takeNumber rd t (2 : Int32) (0 : Int32) (999 : Int32) M7) fun r9 M11 =>
      if r9 = 0 then
        some ((0 : Int32), M11)
      else
        bd2 (f_X4_takeSemicolon rd t M11) fun r13 M15 =>
        if r13 = 0 then
          some ((0 : Int32), M15)
        else
          ck (0 : Int32) 4 <|
          ck (1 : Int32) 4 <|
          ck (2 : Int32) 4 <|
          Option.bind (f_X5_setLumps (rd + 1) (M15 (rd + 10) (0 : Int32).toNatClampNeg) (M15 (rd + 10) (1 : Int32).toNatClampNeg) (M15 (rd + 10) (2 : Int32).toNatClampNeg) M15) fun M22 =>
          some ((1 : Int32), M22)
def f_X4_readMoon (rd : Nat) (t : Nat) (M : Mm) : Option (Int32 × Mm) :=
  bd2 (f_X4_takeNumber rd t (0 : Int32) (0 : Int32) (4 : Int32) M) fun r1 M3 =>
  if r1 = 0 then
    some ((0 : Int32), M3)
  else
    bd2 (f_X4_takeNumber rd t (1 : Int32) (0 : Int32) (5 : Int32) M3) fun r5 M7 =>
    if r5 = 0 then
      some ((0 : Int32), M7)
    else
      bd2 (f_X4_takeNumber rd t (2 : Int32) (0 : Int32) ((M7 (rd + 1) 9) - (1 : Int32)) M7) fun r9 M11 =>
      if r9 = 0 then
        some ((0 : Int32), M11)
      else
        bd2 (f_X4_takeNumber rd t (3 : Int32) (0 : Int32) (9 : Int32) M11) fun r13 M15 =>
        if r13 = 0 then
          some ((0 : Int32), M15)
        else
          bd2 (f_X4_takeSemicolon rd t M15) fun r17 M19 =>
          if r17 = 0 then
            some ((0 : Int32), M19)
          else
            ck (0 : Int32) 4 <|
            ck (1 : Int32) 4 <|
            ck (2 : Int32) 4 <|
            ck (3 : Int32) 4 <|
            bd2 (f_X5_addMoon (rd + 1) (M19 (rd + 10) (0 : Int32).toNatClampNeg) (M19 (rd + 10) (1 : Int32).toNatClampNeg) (M19 (rd + 10) (2 : Int32).toNatClampNeg) (M19 (rd + 10) (3 : Int32).toNatClampNeg) M19) fun r25 M27 =>
            some ((1 : Int32), M27)
def f_X4_readItem (rd : Nat) (t : Nat) (M : Mm) : Option (Int32 × Mm) :=
  Option.bind (f_X9_isWord t 1 M) fun r1 =>
  if r1 = 0 then
    Option.bind (f_X9_isWord t 2 M) fun r5 =>
    if r5 = 0 then
      Option.bind (f_X9_isWord t 3 M) fun r9 =>
      if r9 = 0 then
        some ((0 : Int32), M)
      else
        if (4 : Int32) ≤ (M (rd + 1) 10) then
          some ((0 : Int32), M)
        else
          bd2 (f_X4_readMoon rd t M) fun r14 M16 =>
          if r14 = 0 then
            some ((0 : Int32), M16)
          else
            some ((1 : Int32), M16)
    else
      bd2 (f_X4_readLumps rd t M) fun r18 M20 =>
      cb r18 <|
      some (r18, M20)
  else
    bd2 (f_X4_readStep rd t M) fun r22 M24 =>
    cb r22 <|
    some (r22, M24)
def f_X4_readAll_L41 (rd : Nat) (t : Nat) : Nat → Int32 → Mm → Option (Int32 × Mm)
  | 0, _, _ => none
  | n + 1, x1, M =>
      if (250 : Int32) ≤ x1 then
        some (x1, M)
      else
        if (M t 2) = 0 then
          some (x1, M)
        else
          bd2 (f_X4_readItem rd t M) fun r16 M18 =>
          if r16 = 0 then
            some (((-10 : Int32) - (M18 t 3)), M18)
          else
            bnd (x1 + (1 : Int32)) fun z20 =>
            Option.bind (f_X9_nextToken t M18) fun M23 =>
            f_X4_readAll_L41 rd t n z20 M23
def f_X4_readAll (rd : Nat) (t : Nat) (M : Mm) : Option (Int32 × Mm) :=
  Option.bind (f_X9_rewind t M) fun M3 =>
  Option.bind (f_X9_nextToken t M3) fun M6 =>
  bd2 (f_X4_readRing rd t M6) fun r7 M9 =>
  if r7 = 0 then
    some (((-10 : Int32) - (M9 t 3)), M9)
  else
    Option.bind (f_X9_nextToken t M9) fun M13 =>
    f_X4_readAll_L41 rd t 2000 (1 : Int32) M13
def f_X7_forget (b : Nat) (M : Mm) : Option (Mm) :=
  bnd (up2 M b 3 (0 : Int32)) fun M1 =>
  some (M1)
def f_X11_read (x : Nat) (M : Mm) : Option (Int32 × Mm) :=
  bd2 (f_X4_readAll (x + 222) (x + 220) M) fun r1 M3 =>
  if r1 < 0 then
    some (r1, M3)
  else
    Option.bind (f_X5_copy (x + 7 + 1) (x + 222 + 1) M3) fun M7 =>
    Option.bind (f_X7_forget (x + 7) M7) fun M10 =>
    some (r1, M10)
def f_X11_ring (x : Nat) (p0 : Int32) (M : Mm) : Option (Int32 × Mm) :=
  Option.bind (f_X11_isWithin p0 (4 : Int32) (24 : Int32) M) fun r1 =>
  if r1 = 0 then
    bd2 (f_X11_refuse x (0 : Int32) (-2 : Int32) M) fun r12 M14 =>
    some (r12, M14)
  else
    bnd (M (x + 7 + 1) 9) fun z5 =>
    Option.bind (f_X5_begin (x + 7 + 1) p0 M) fun M8 =>
    Option.bind (f_X7_forget (x + 7) M8) fun M11 =>
    some (z5, M11)
def f_X11_road_J24 (x : Nat) (M : Mm) : Option (Int32 × Mm) :=
    bd2 (f_X11_refuse x (0 : Int32) (-10 : Int32) M) fun r5 M7 =>
    some (r5, M7)
def f_X11_road (x : Nat) (p0 : Int32) (p1 : Int32) (p2 : Int32) (M : Mm) : Option (Int32 × Mm) :=
  Option.bind (f_X11_isPlace x p0 M) fun r1 =>
  if r1 = 0 then
    f_X11_road_J24 x M
  else
    Option.bind (f_X11_isRounds p1 M) fun r8 =>
    if r8 = 0 then
      f_X11_road_J24 x M
    else
      Option.bind (f_X11_isWithin p2 (0 : Int32) (1 : Int32) M) fun r12 =>
      if r12 = 0 then
        f_X11_road_J24 x M
      else
        bd2 (f_X0_roadOpens (x + 204) (x + 7 + 1) p0 p1 M) fun r16 M18 =>
        if p2 = 0 then
          some (r16, M18)
        else
          if r16 = (-1 : Int32) then
            some (r16, M18)
          else
            bd2 (f_X0_roadLasts (x + 204) (x + 7 + 1) p0 p1 r16 M18) fun r21 M23 =>
            some (r21, M23)
def f_X7_goOn (b : Nat) (M : Mm) : Option (Int32 × Mm) :=
  cz (6 : Int32) <|
  bnd (up2 M b 2 (jr ((M b 2) + (1 : Int32)) (6 : Int32))) fun M2 =>
  bnd (up2 M2 b 3 (jmin ((M2 b 3) + (1 : Int32)) (6 : Int32))) fun M3 =>
  ck (M3 b 2) 6 <|
  bnd (M3 b 2).toNatClampNeg fun j5 =>
  Option.bind (f_X5_copy (b + 11 + 9 * j5) (b + 1) M3) fun M8 =>
  bd2 (f_X5_goOn (b + 1) M8) fun r9 M11 =>
  some (r9, M11)
def f_X11_round (x : Nat) (M : Mm) : Option (Int32 × Mm) :=
  bd2 (f_X7_goOn (x + 7) M) fun r1 M3 =>
  some (r1, M3)
def f_X11_status (x : Nat) (p0 : Int32) (M : Mm) : Option (Int32 × Mm) :=
  Option.bind (f_X11_isWithin p0 (0 : Int32) (2 : Int32) M) fun r1 =>
  if r1 = 0 then
    bd2 (f_X11_refuse x (0 : Int32) (-1 : Int32) M) fun r6 M8 =>
    some (r6, M8)
  else
    ck p0 3 <|
    some ((M (x + 233) p0.toNatClampNeg), M)
def f_X11_step_J17 (x : Nat) (M : Mm) : Option (Int32 × Mm) :=
    bd2 (f_X11_refuse x (0 : Int32) (-2 : Int32) M) fun r5 M7 =>
    some (r5, M7)
def f_X11_step (x : Nat) (p0 : Int32) (p1 : Int32) (M : Mm) : Option (Int32 × Mm) :=
  Option.bind (f_X11_isLane p0 M) fun r1 =>
  if r1 = 0 then
    f_X11_step_J17 x M
  else
    Option.bind (f_X11_isWithin p1 (0 : Int32) (9 : Int32) M) fun r8 =>
    if r8 = 0 then
      f_X11_step_J17 x M
    else
      ck p0 5 <|
      bnd (M (x + 7 + 1 + 1) p0.toNatClampNeg) fun z13 =>
      ck p0 5 <|
      bnd (up2 M (x + 7 + 1 + 1) p0.toNatClampNeg p1) fun M15 =>
      some (z13, M15)
def f_X11_taken_J12 (x : Nat) (M : Mm) : Option (Int32 × Mm) :=
    bd2 (f_X11_refuse x (0 : Int32) (-10 : Int32) M) fun r5 M7 =>
    some (r5, M7)
def f_X11_taken (x : Nat) (p0 : Int32) (p1 : Int32) (M : Mm) : Option (Int32 × Mm) :=
  Option.bind (f_X11_isRounds p0 M) fun r1 =>
  if r1 = 0 then
    f_X11_taken_J12 x M
  else
    if (-1 : Int32) ≤ p1 then
      bd2 (f_X0_findTaken (x + 204) (x + 7 + 1) p0 M) fun r9 M11 =>
      if p1 = (-1 : Int32) then
        some (r9, M11)
      else
        if r9 ≤ p1 then
          some ((-5 : Int32), M11)
        else
          Option.bind (f_X0_takenAt (x + 204) (x + 7 + 1) p1 M11) fun r14 =>
          some (r14, M11)
    else
      f_X11_taken_J12 x M
def f_X11_there_J20 (x : Nat) (M : Mm) : Option (Int32 × Mm) :=
    bd2 (f_X11_refuse x (0 : Int32) (-10 : Int32) M) fun r5 M7 =>
    some (r5, M7)
def f_X11_there_J28 (x : Nat) (x1 : Int32) (x2 : Int32) (M : Mm) : Option (Int32 × Mm) :=
    if x2 = (-1 : Int32) then
      Option.bind (f_X5_lumpsIn (x + 7 + 1) x1 M) fun r13 =>
      some (r13, M)
    else
      Option.bind (f_X5_lumpsAt (x + 7 + 1) x1 x2 M) fun r10 =>
      some (r10, M)
def f_X11_there (x : Nat) (p0 : Int32) (p1 : Int32) (M : Mm) : Option (Int32 × Mm) :=
  Option.bind (f_X11_isLane p0 M) fun r1 =>
  if r1 = 0 then
    f_X11_there_J20 x M
  else
    if p1 = (-1 : Int32) then
      f_X11_there_J28 x p0 p1 M
    else
      Option.bind (f_X11_isPlace x p1 M) fun r16 =>
      if r16 = 0 then
        f_X11_there_J20 x M
      else
        f_X11_there_J28 x p0 p1 M
def f_X11_told_J18 (x : Nat) (M : Mm) : Option (Int32 × Mm) :=
    bd2 (f_X11_refuse x (0 : Int32) (-2 : Int32) M) fun r5 M7 =>
    some (r5, M7)
def f_X11_told (x : Nat) (p0 : Int32) (p1 : Int32) (M : Mm) : Option (Int32 × Mm) :=
  Option.bind (f_X11_isLane p0 M) fun r1 =>
  if r1 = 0 then
    f_X11_told_J18 x M
  else
    Option.bind (f_X11_isWithin p1 (0 : Int32) (9999 : Int32) M) fun r8 =>
    if r8 = 0 then
      f_X11_told_J18 x M
    else
      ck p0 5 <|
      bnd (M (x + 7 + 1 + 2) p0.toNatClampNeg) fun z13 =>
      ck p0 5 <|
      bnd (up2 M (x + 7 + 1 + 2) p0.toNatClampNeg p1) fun M15 =>
      some (z13, M15)
def f_X9_add_L5 (t : Nat) : Nat → Int64 → Int32 → Mm → Option (Mm)
  | 0, _, _, _ => none
  | n + 1, x1, x4, M =>
      if x4 < 0 then
        some (M)
      else
        ck (M t 1) 250 <|
        bnd (up2 M (t + 1) (M t 1).toNatClampNeg (((jsrL x1 ((8 : Int32) * x4)) &&& (255 : Int64)).toInt32)) fun M4 =>
        bnd (up2 M4 t 1 ((M4 t 1) + (1 : Int32))) fun M5 =>
        bnd (x4 + (-1 : Int32)) fun z6 =>
        f_X9_add_L5 t n x1 z6 M5
def f_X9_add (t : Nat) (p0 : Int64) (p1 : Int32) (M : Mm) : Option (Mm) :=
  bnd (p1 - (1 : Int32)) fun z1 =>
  f_X9_add_L5 t 2000 p0 z1 M
def f_X11_type (x : Nat) (p0 : Int64) (p1 : Int32) (M : Mm) : Option (Int32 × Mm) :=
  Option.bind (f_X11_isWithin p1 (1 : Int32) (8 : Int32) M) fun r1 =>
  if r1 = 0 then
    bd2 (f_X11_refuse x (0 : Int32) (-2 : Int32) M) fun r12 M14 =>
    some (r12, M14)
  else
    if ((M (x + 220) 1) + p1) ≤ (250 : Int32) then
      Option.bind (f_X9_add (x + 220) p0 p1 M) fun M8 =>
      some ((M8 (x + 220) 1), M8)
    else
      bd2 (f_X11_refuse x (2 : Int32) (-4 : Int32) M) fun r9 M11 =>
      some (r9, M11)
def f_X7_goBack (b : Nat) (M : Mm) : Option (Mm) :=
  ck (M b 2) 6 <|
  bnd (M b 2).toNatClampNeg fun j2 =>
  Option.bind (f_X5_goBackTo (b + 1) (b + 11 + 9 * j2) M) fun M5 =>
  cz (6 : Int32) <|
  bnd (up2 M5 b 2 (jr (((M5 b 2) + (6 : Int32)) - (1 : Int32)) (6 : Int32))) fun M7 =>
  bnd (up2 M7 b 3 ((M7 b 3) - (1 : Int32))) fun M8 =>
  some (M8)
def f_X11_undo (x : Nat) (M : Mm) : Option (Int32 × Mm) :=
  if (1 : Int32) ≤ (M (x + 7) 3) then
    Option.bind (f_X7_goBack (x + 7) M) fun M4 =>
    some ((1 : Int32), M4)
  else
    bd2 (f_X11_refuse x (1 : Int32) (-3 : Int32) M) fun r5 M7 =>
    some (r5, M7)
def f_X11_where_J32 (x : Nat) (M : Mm) : Option (Int32 × Mm) :=
    bd2 (f_X11_refuse x (0 : Int32) (-10 : Int32) M) fun r5 M7 =>
    some (r5, M7)
def f_X11_where (x : Nat) (p0 : Int32) (p1 : Int32) (p2 : Int32) (p3 : Int32) (M : Mm) : Option (Int32 × Mm) :=
  Option.bind (f_X11_isLane p0 M) fun r1 =>
  if r1 = 0 then
    f_X11_where_J32 x M
  else
    Option.bind (f_X11_isPlace x p1 M) fun r8 =>
    if r8 = 0 then
      f_X11_where_J32 x M
    else
      Option.bind (f_X11_isRounds p2 M) fun r12 =>
      if r12 = 0 then
        f_X11_where_J32 x M
      else
        Option.bind (f_X11_isWithin p3 (0 : Int32) (2 : Int32) M) fun r16 =>
        if r16 = 0 then
          f_X11_where_J32 x M
        else
          Option.bind (f_X0_follow (x + 204) (x + 7 + 1) p0 p1 p2 M) fun M22 =>
          if p3 = 0 then
            Option.bind (f_X2_isLost (x + 204 + 10) M22) fun r25 =>
            if r25 = 0 then
              some ((M22 (x + 204 + 10) 0), M22)
            else
              some ((-1 : Int32), M22)
          else
            if p3 = (1 : Int32) then
              some ((M22 (x + 204 + 10) 1), M22)
            else
              some ((M22 (x + 204 + 10) 2), M22)
def f_X12_moons (y : Nat) (M : Mm) : Option (Int32) :=
  ck (126 : Int32) 913 <|
  some ((M (y + 1) (126 : Int32).toNatClampNeg))
def f_X12_in (p0 : Int64) (p1 : Int64) (p2 : Int64) (M : Mm) : Option (Int32) :=
  if (lg_cmp p0 p1) < 0 then
    some ((0 : Int32))
  else
    if 0 < (lg_cmp p0 p2) then
      some ((0 : Int32))
    else
      some ((1 : Int32))
def f_X12_isMoon (y : Nat) (p0 : Int32) (M : Mm) : Option (Int32) :=
  Option.bind (f_X12_moons y M) fun r1 =>
  Option.bind (f_X12_in p0.toInt64 (0 : Int64) ((r1 - (1 : Int32)).toInt64) M) fun r4 =>
  cb r4 <|
  some (r4)
def f_X12_of (y : Nat) (p0 : Int32) (p1 : Int32) (M : Mm) : Option (Int32) :=
  ck (((127 : Int32) + ((4 : Int32) * p0)) + p1) 913 <|
  some ((M (y + 1) (((127 : Int32) + ((4 : Int32) * p0)) + p1).toNatClampNeg))
def f_X12_bad (y : Nat) (p0 : Int32) (M : Mm) : Option (Int32 × Mm) :=
  ck (0 : Int32) 3 <|
  ck (0 : Int32) 3 <|
  bnd (up2 M (y + 4) (0 : Int32).toNatClampNeg ((M (y + 4) (0 : Int32).toNatClampNeg) + (1 : Int32))) fun M3 =>
  some (p0, M3)
def f_X12_about_J29 (y : Nat) (M : Mm) : Option (Int32 × Mm) :=
    bd2 (f_X12_bad y (-2 : Int32) M) fun r5 M7 =>
    some (r5, M7)
def f_X12_about (y : Nat) (p0 : Int32) (p1 : Int32) (M : Mm) : Option (Int32 × Mm) :=
  Option.bind (f_X12_isMoon y p0 M) fun r1 =>
  if r1 = 0 then
    f_X12_about_J29 y M
  else
    Option.bind (f_X12_in p1.toInt64 (0 : Int64) (3 : Int64) M) fun r8 =>
    if r8 = 0 then
      f_X12_about_J29 y M
    else
      Option.bind (f_X12_of y p0 p1 M) fun r12 =>
      some (r12, M)
def f_X12_all (y : Nat) (M : Mm) : Option (Int32) :=
  Option.bind (f_X12_moons y M) fun r1 =>
  some (((jsl (1 : Int32) r1) - (1 : Int32)))
def f_X12_places (y : Nat) (M : Mm) : Option (Int32) :=
  ck (0 : Int32) 913 <|
  some ((M (y + 1) (0 : Int32).toNatClampNeg))
def f_X12_common_L4 (M : Mm) : Nat → Int32 → Int32 → Option (Int32)
  | 0, _, _ => none
  | n + 1, x2, x3 =>
      if x3 = 0 then
        some (x2)
      else
        cz x3 <|
        bnd (jr x2 x3) fun z3 =>
        f_X12_common_L4 M n x3 z3
def f_X12_common (p0 : Int32) (p1 : Int32) (M : Mm) : Option (Int32) :=
  f_X12_common_L4 M 2000 p0 p1
def f_X12_turns (y : Nat) (p0 : Int32) (M : Mm) : Option (Int32) :=
  Option.bind (f_X12_places y M) fun r1 =>
  Option.bind (f_X12_places y M) fun r4 =>
  Option.bind (f_X12_common r4 p0 M) fun r7 =>
  cz r7 <|
  some ((r1 / r7))
def f_X12_back_L40 (y : Nat) (M : Mm) : Nat → Int32 → Int32 → Option (Int32)
  | 0, _, _ => none
  | n + 1, x1, x2 =>
      Option.bind (f_X12_moons y M) fun r2 =>
      if r2 ≤ x2 then
        some (x1)
      else
        Option.bind (f_X12_of y x2 (3 : Int32) M) fun r6 =>
        Option.bind (f_X12_turns y r6 M) fun r9 =>
        Option.bind (f_X12_common x1 r9 M) fun r12 =>
        cz r12 <|
        bnd ((x1 / r12) * r9) fun z16 =>
        bnd (x2 + (1 : Int32)) fun z17 =>
        f_X12_back_L40 y M n z16 z17
def f_X12_back_L4 (y : Nat) (M : Mm) : Nat → Int32 → Int32 → Option (Int32)
  | 0, _, _ => none
  | n + 1, x1, x2 =>
      if (5 : Int32) ≤ x2 then
        f_X12_back_L40 y M 2000 x1 (0 : Int32)
      else
        ck ((1 : Int32) + x2) 913 <|
        Option.bind (f_X12_turns y (M (y + 1) ((1 : Int32) + x2).toNatClampNeg) M) fun r19 =>
        Option.bind (f_X12_common x1 r19 M) fun r22 =>
        cz r22 <|
        bnd ((x1 / r22) * r19) fun z26 =>
        bnd (x2 + (1 : Int32)) fun z27 =>
        f_X12_back_L4 y M n z26 z27
def f_X12_back (y : Nat) (M : Mm) : Option (Int32) :=
  f_X12_back_L4 y M 2000 (1 : Int32) (0 : Int32)
def f_X12_begin_L25 (p0 : Nat) (p0n : Nat) : Nat → Int32 → Mm → Option (Mm)
  | 0, _, _ => none
  | n + 1, x2, M =>
      if (5 : Int32) ≤ x2 then
        some (M)
      else
        ck ((1 : Int32) + x2) p0n <|
        bnd (up2 M p0 ((1 : Int32) + x2).toNatClampNeg ((5 : Int32) - x2)) fun M6 =>
        bnd (x2 + (1 : Int32)) fun z7 =>
        f_X12_begin_L25 p0 p0n n z7 M6
def f_X12_begin_L2 (p0 : Nat) (p0n : Nat) : Nat → Int32 → Int32 → Mm → Option (Mm)
  | 0, _, _, _ => none
  | n + 1, x1, x2, M =>
      if (151 : Int32) ≤ x2 then
        ck (0 : Int32) p0n <|
        bnd (up2 M p0 (0 : Int32).toNatClampNeg x1) fun M3 =>
        f_X12_begin_L25 p0 p0n 2000 (0 : Int32) M3
      else
        ck x2 p0n <|
        bnd (up2 M p0 x2.toNatClampNeg (0 : Int32)) fun M9 =>
        bnd (x2 + (1 : Int32)) fun z10 =>
        f_X12_begin_L2 p0 p0n n x1 z10 M9
def f_X12_begin (p0 : Nat) (p0n : Nat) (p1 : Int32) (M : Mm) : Option (Mm) :=
  f_X12_begin_L2 p0 p0n 2000 p1 (0 : Int32) M
def f_X12_goMoons_L2 (y : Nat) : Nat → Int32 → Mm → Option (Mm)
  | 0, _, _ => none
  | n + 1, x1, M =>
      Option.bind (f_X12_moons y M) fun r1 =>
      if r1 ≤ x1 then
        bnd (up2 M y 9 ((M y 9) + (1 : Int32))) fun M5 =>
        some (M5)
      else
        ck x1 4 <|
        Option.bind (f_X12_of y x1 (3 : Int32) M) fun r7 =>
        Option.bind (f_X12_places y M) fun r10 =>
        cz r10 <|
        ck x1 4 <|
        bnd (up2 M (y + 7) x1.toNatClampNeg (jr ((M (y + 7) x1.toNatClampNeg) + r7) r10)) fun M15 =>
        bnd (x1 + (1 : Int32)) fun z16 =>
        f_X12_goMoons_L2 y n z16 M15
def f_X12_goMoons (y : Nat) (M : Mm) : Option (Mm) :=
  f_X12_goMoons_L2 y 2000 (0 : Int32) M
def f_X12_isLane (p0 : Int32) (M : Mm) : Option (Int32) :=
  Option.bind (f_X12_in p0.toInt64 (0 : Int64) (4 : Int64) M) fun r1 =>
  cb r1 <|
  some (r1)
def f_X12_isAwake_J31 (y : Nat) (M : Mm)  : Option (Int32) :=
    some ((1 : Int32))
def f_X12_isAwake (y : Nat) (p0 : Int32) (M : Mm) : Option (Int32) :=
  if ((jsr (M y 10) p0) &&& (1 : Int32)) = (1 : Int32) then
    Option.bind (f_X12_of y p0 (0 : Int32) M) fun r2 =>
    if r2 = (4 : Int32) then
      cz (3 : Int32) <|
      if (jr (M y 9) (3 : Int32)) = 0 then
        some ((0 : Int32))
      else
        f_X12_isAwake_J31 y M
    else
      f_X12_isAwake_J31 y M
  else
    some ((0 : Int32))
def f_X12_isBy_J72 (y : Nat) (M : Mm)  : Option (Int32) :=
    some ((1 : Int32))
def f_X12_isBy_J25 (y : Nat) (M : Mm) (x1 : Int32) (x2 : Int32) (s0 : Int32) : Option (Int32) :=
    ck x1 4 <|
    Option.bind (f_X12_places y M) fun r6 =>
    Option.bind (f_X12_places y M) fun r9 =>
    cz r9 <|
    bnd (jr ((x2 - (M (y + 7) x1.toNatClampNeg)) + r6) r9) fun z13 =>
    if z13 = 0 then
      f_X12_isBy_J72 y M
    else
      if s0 = 0 then
        some ((0 : Int32))
      else
        if z13 = (1 : Int32) then
          f_X12_isBy_J72 y M
        else
          Option.bind (f_X12_places y M) fun r17 =>
          if z13 = (r17 - (1 : Int32)) then
            f_X12_isBy_J72 y M
          else
            some ((0 : Int32))
def f_X12_isBy_J20 (y : Nat) (M : Mm) (x1 : Int32) (x2 : Int32) : Option (Int32) :=
    f_X12_isBy_J25 y M x1 x2 (1 : Int32)
def f_X12_isBy (y : Nat) (p0 : Int32) (p1 : Int32) (M : Mm) : Option (Int32) :=
  Option.bind (f_X12_of y p0 (0 : Int32) M) fun r1 =>
  if r1 = (1 : Int32) then
    f_X12_isBy_J20 y M p0 p1
  else
    Option.bind (f_X12_of y p0 (0 : Int32) M) fun r21 =>
    if r21 = (3 : Int32) then
      f_X12_isBy_J20 y M p0 p1
    else
      f_X12_isBy_J25 y M p0 p1 (0 : Int32)
def f_X12_isBeside_J22 (y : Nat) (M : Mm)  : Option (Int32) :=
    some ((1 : Int32))
def f_X12_isBeside (y : Nat) (p0 : Int32) (p1 : Int32) (M : Mm) : Option (Int32) :=
  Option.bind (f_X12_of y p0 (1 : Int32) M) fun r1 =>
  if p1 = r1 then
    f_X12_isBeside_J22 y M
  else
    Option.bind (f_X12_of y p0 (1 : Int32) M) fun r5 =>
    if p1 = (r5 - (1 : Int32)) then
      f_X12_isBeside_J22 y M
    else
      some ((0 : Int32))
def f_X12_movedTo_J48 (y : Nat) (M : Mm) (x2 : Int32) (x4 : Int32) (s0 : Int32) (s1 : Int32) : Option (Int32) :=
    if s0 = s1 then
      some ((x2 + x4))
    else
      some ((x2 - x4))
def f_X12_movedTo_J34 (y : Nat) (M : Mm) (x2 : Int32) (x3 : Int32) (x4 : Int32) (s0 : Int32) : Option (Int32) :=
    if x3 = (2 : Int32) then
      f_X12_movedTo_J48 y M x2 x4 s0 (0 : Int32)
    else
      f_X12_movedTo_J48 y M x2 x4 s0 (1 : Int32)
def f_X12_movedTo_J17 (y : Nat) (M : Mm) (x1 : Int32) (x2 : Int32) (x3 : Int32) (s0 : Int32) : Option (Int32) :=
    Option.bind (f_X12_of y x1 (1 : Int32) M) fun r5 =>
    if x2 = r5 then
      f_X12_movedTo_J34 y M x2 x3 s0 (1 : Int32)
    else
      f_X12_movedTo_J34 y M x2 x3 s0 (0 : Int32)
def f_X12_movedTo (y : Nat) (p0 : Int32) (p1 : Int32) (M : Mm) : Option (Int32) :=
  Option.bind (f_X12_of y p0 (0 : Int32) M) fun r1 =>
  if r1 = (3 : Int32) then
    f_X12_movedTo_J17 y M p0 p1 r1 (2 : Int32)
  else
    f_X12_movedTo_J17 y M p0 p1 r1 (1 : Int32)
def f_X12_goOne_J104 (y : Nat) (x1 : Int32) (M : Mm) (kb31 : Int32 → Mm → Option (Mm)) : Option (Mm) :=
    bnd (x1 + (1 : Int32)) fun z22 =>
    kb31 z22 M
def f_X12_goOne_L31 (y : Nat) : Nat → Int32 → Mm → Option (Mm)
  | 0, _, _ => none
  | n + 1, x1, M =>
      Option.bind (f_X12_moons y M) fun r10 =>
      if r10 ≤ x1 then
        some (M)
      else
        Option.bind (f_X12_isLane (M y 11) M) fun r14 =>
        if r14 = 0 then
          some (M)
        else
          Option.bind (f_X12_isAwake y x1 M) fun r18 =>
          if r18 = 0 then
            f_X12_goOne_J104 y x1 M (fun x1 M => f_X12_goOne_L31 y n x1 M)
          else
            Option.bind (f_X12_isBy y x1 (M y 12) M) fun r23 =>
            if r23 = 0 then
              f_X12_goOne_J104 y x1 M (fun x1 M => f_X12_goOne_L31 y n x1 M)
            else
              Option.bind (f_X12_isBeside y x1 (M y 11) M) fun r27 =>
              if r27 = 0 then
                f_X12_goOne_J104 y x1 M (fun x1 M => f_X12_goOne_L31 y n x1 M)
              else
                Option.bind (f_X12_movedTo y x1 (M y 11) M) fun r31 =>
                bnd (up2 M y 11 r31) fun M34 =>
                bnd (up2 M34 y 13 ((M34 y 13) + (1 : Int32))) fun M35 =>
                f_X12_goOne_J104 y x1 M35 (fun x1 M => f_X12_goOne_L31 y n x1 M)
def f_X12_goOne (y : Nat) (M : Mm) : Option (Mm) :=
  ck ((1 : Int32) + (M y 11)) 913 <|
  Option.bind (f_X12_places y M) fun r2 =>
  cz r2 <|
  bnd (up2 M y 12 (jr ((M y 12) + (M (y + 1) ((1 : Int32) + (M y 11)).toNatClampNeg)) r2)) fun M6 =>
  Option.bind (f_X12_goMoons y M6) fun M9 =>
  f_X12_goOne_L31 y 2000 (0 : Int32) M9
def f_X12_behind_L3 (y : Nat) : Nat → Int32 → Int32 → Int32 → Int32 → Mm → Option (Int32 × Mm)
  | 0, _, _, _, _, _ => none
  | n + 1, x1, x2, x3, x4, M =>
      Option.bind (f_X12_moons y M) fun r1 =>
      if r1 ≤ x4 then
        ck (148 : Int32) 913 <|
        bnd (up2 M y 9 ((M (y + 1) (148 : Int32).toNatClampNeg) + x1)) fun M6 =>
        bnd (up2 M6 y 11 x2) fun M7 =>
        bnd (up2 M7 y 12 x3) fun M8 =>
        Option.bind (f_X12_goOne y M8) fun M11 =>
        Option.bind (f_X12_isLane (M11 y 11) M11) fun r12 =>
        if r12 = 0 then
          some ((-1 : Int32), M11)
        else
          some ((((24 : Int32) * (M11 y 11)) + (M11 y 12)), M11)
      else
        Option.bind (f_X12_of y x4 (2 : Int32) M) fun r16 =>
        Option.bind (f_X12_of y x4 (3 : Int32) M) fun r19 =>
        Option.bind (f_X12_places y M) fun r22 =>
        cz r22 <|
        ck x4 4 <|
        bnd (up2 M (y + 7) x4.toNatClampNeg (jr (r16 + (x1 * r19)) r22)) fun M27 =>
        bnd (x4 + (1 : Int32)) fun z28 =>
        f_X12_behind_L3 y n x1 x2 x3 z28 M27
def f_X12_behind (y : Nat) (p0 : Int32) (p1 : Int32) (p2 : Int32) (M : Mm) : Option (Int32 × Mm) :=
  f_X12_behind_L3 y 2000 p0 p1 p2 (0 : Int32) M
def f_X12_bits_L4 (M : Mm) : Nat → Int32 → Int32 → Option (Int32)
  | 0, _, _ => none
  | n + 1, x1, x2 =>
      if x2 ≤ 0 then
        some (x1)
      else
        bnd (x1 + (x2 &&& (1 : Int32))) fun z2 =>
        bnd (jsr x2 (1 : Int32)) fun z3 =>
        f_X12_bits_L4 M n z2 z3
def f_X12_bits (p0 : Int32) (M : Mm) : Option (Int32) :=
  f_X12_bits_L4 M 2000 (0 : Int32) p0
def f_X12_clear (y : Nat) (M : Mm) : Option (Int32 × Mm) :=
  bnd (M y 18) fun z1 =>
  bnd (up2 M y 18 (0 : Int32)) fun M2 =>
  some (z1, M2)
def f_X12_sumOf_L5 (p0 : Nat) (p0n : Nat) (M : Mm) : Nat → Int32 → Int32 → Int32 → Int32 → Option (Int32)
  | 0, _, _, _, _ => none
  | n + 1, x1, x2, x3, x4 =>
      if x2 ≤ x4 then
        some (x3)
      else
        ck (x1 + x4) p0n <|
        bnd (x3 + (M p0 (x1 + x4).toNatClampNeg)) fun z3 =>
        bnd (x4 + (1 : Int32)) fun z4 =>
        f_X12_sumOf_L5 p0 p0n M n x1 x2 z3 z4
def f_X12_sumOf (p0 : Nat) (p0n : Nat) (p1 : Int32) (p2 : Int32) (M : Mm) : Option (Int32) :=
  f_X12_sumOf_L5 p0 p0n M 2000 p1 p2 (0 : Int32) (0 : Int32)
def f_X12_counted (y : Nat) (p0 : Int32) (M : Mm) : Option (Int32) :=
  if p0 = (0 : Int32) then
    Option.bind (f_X12_places y M) fun r2 =>
    some (r2)
  else
    if p0 = (1 : Int32) then
      Option.bind (f_X12_sumOf (y + 1) 913 (6 : Int32) (120 : Int32) M) fun r6 =>
      some (r6)
    else
      if p0 = (2 : Int32) then
        Option.bind (f_X12_moons y M) fun r10 =>
        some (r10)
      else
        if p0 = (3 : Int32) then
          ck (148 : Int32) 913 <|
          some ((M (y + 1) (148 : Int32).toNatClampNeg))
        else
          if p0 = (4 : Int32) then
            ck (149 : Int32) 913 <|
            some ((M (y + 1) (149 : Int32).toNatClampNeg))
          else
            if p0 = (5 : Int32) then
              ck (150 : Int32) 913 <|
              some ((M (y + 1) (150 : Int32).toNatClampNeg))
            else
              some ((M y 18))
def f_X12_count (y : Nat) (p0 : Int32) (M : Mm) : Option (Int32 × Mm) :=
  Option.bind (f_X12_in p0.toInt64 (0 : Int64) (6 : Int64) M) fun r1 =>
  if r1 = 0 then
    bd2 (f_X12_bad y (-2 : Int32) M) fun r5 M7 =>
    some (r5, M7)
  else
    Option.bind (f_X12_counted y p0 M) fun r8 =>
    some (r8, M)
def f_X12_sums_L6 (y : Nat) (M : Mm) : Nat → Int32 → Int32 → Int64 → Int32 → Option (Int64)
  | 0, _, _, _, _ => none
  | n + 1, x3, x4, x5, x7 =>
      if x4 ≤ x7 then
        some (x5)
      else
        ck (x3 + x7) 913 <|
        bnd (((31 : Int64) * x5) + ((M (y + 1) (x3 + x7).toNatClampNeg).toInt64)) fun z3 =>
        bnd (x7 + (1 : Int32)) fun z4 =>
        f_X12_sums_L6 y M n x3 x4 z3 z4
def f_X12_sums (y : Nat) (p0 : Int64) (p1 : Int32) (p2 : Int32) (M : Mm) : Option (Int64) :=
  f_X12_sums_L6 y M 2000 p1 p2 p0 (0 : Int32)
def f_X12_digest_L33 (y : Nat) (M : Mm) (N : Ml) : Nat → Int64 → Int32 → Option (Int64)
  | 0, _, _ => none
  | n + 1, x1, x3 =>
      if (5 : Int32) ≤ x3 then
        Option.bind (f_X12_moons y M) fun r3 =>
        Option.bind (f_X12_sums y x1 (127 : Int32) ((4 : Int32) * r3) M) fun r6 =>
        some ((((31 : Int64) * (((31 : Int64) * r6) + (N y 4))) + (N y 5)))
      else
        ck ((1 : Int32) + x3) 913 <|
        ck ((143 : Int32) + x3) 913 <|
        bnd (((31 : Int64) * (((31 : Int64) * x1) + ((M (y + 1) ((1 : Int32) + x3).toNatClampNeg).toInt64))) + ((M (y + 1) ((143 : Int32) + x3).toNatClampNeg).toInt64)) fun z11 =>
        Option.bind (f_X12_places y M) fun r12 =>
        Option.bind (f_X12_sums y z11 ((6 : Int32) + ((24 : Int32) * x3)) r12 M) fun r15 =>
        bnd (x3 + (1 : Int32)) fun z18 =>
        f_X12_digest_L33 y M N n r15 z18
def f_X12_digest_L6 (y : Nat) (M : Mm) (N : Ml) : Nat → Int64 → Int32 → Option (Int64)
  | 0, _, _ => none
  | n + 1, x1, x3 =>
      if (7 : Int32) ≤ x3 then
        f_X12_digest_L33 y M N 2000 x1 (0 : Int32)
      else
        Option.bind (f_X12_counted y x3 M) fun r19 =>
        bnd (((31 : Int64) * x1) + r19.toInt64) fun z22 =>
        bnd (x3 + (1 : Int32)) fun z23 =>
        f_X12_digest_L6 y M N n z22 z23
def f_X12_digest (y : Nat) (M : Mm) (N : Ml) : Option (Int64) :=
  f_X12_digest_L6 y M N 2000 (821 : Int64) (0 : Int32)
def f_X12_factorial_L4 (M : Mm) : Nat → Int32 → Int32 → Int32 → Option (Int32)
  | 0, _, _, _ => none
  | n + 1, x0, x1, x2 =>
      if x0 < x2 then
        some (x1)
      else
        bnd (x1 * x2) fun z2 =>
        bnd (x2 + (1 : Int32)) fun z3 =>
        f_X12_factorial_L4 M n x0 z2 z3
def f_X12_factorial (p0 : Int32) (M : Mm) : Option (Int32) :=
  f_X12_factorial_L4 M 2000 p0 (1 : Int32) (2 : Int32)
def f_X12_isLong (p0 : Int32) (M : Mm) : Option (Int32) :=
  Option.bind (f_X12_in p0.toInt64 (0 : Int64) (60 : Int64) M) fun r1 =>
  cb r1 <|
  some (r1)
def f_X12_takeNow_L31 (y : Nat) : Nat → Int32 → Int32 → Mm → Option (Mm)
  | 0, _, _, _ => none
  | n + 1, x1, x2, M =>
      Option.bind (f_X12_moons y M) fun r2 =>
      if r2 ≤ x2 then
        ck (148 : Int32) 913 <|
        bnd (up2 M y 9 (M (y + 1) (148 : Int32).toNatClampNeg)) fun M7 =>
        bnd (up2 M7 y 10 x1) fun M8 =>
        some (M8)
      else
        Option.bind (f_X12_of y x2 (2 : Int32) M) fun r9 =>
        ck x2 4 <|
        bnd (up2 M (y + 7) x2.toNatClampNeg r9) fun M13 =>
        bnd (x2 + (1 : Int32)) fun z14 =>
        f_X12_takeNow_L31 y n x1 z14 M13
def f_X12_takeNow_L2 (y : Nat) : Nat → Int32 → Int32 → Mm → Option (Mm)
  | 0, _, _, _ => none
  | n + 1, x1, x2, M =>
      if (120 : Int32) ≤ x2 then
        f_X12_takeNow_L31 y 2000 x1 (0 : Int32) M
      else
        ck ((6 : Int32) + x2) 913 <|
        ck x2 120 <|
        bnd (up2 M (y + 5) x2.toNatClampNeg (M (y + 1) ((6 : Int32) + x2).toNatClampNeg)) fun M17 =>
        bnd (x2 + (1 : Int32)) fun z18 =>
        f_X12_takeNow_L2 y n x1 z18 M17
def f_X12_takeNow (y : Nat) (p0 : Int32) (M : Mm) : Option (Mm) :=
  f_X12_takeNow_L2 y 2000 p0 (0 : Int32) M
def f_X12_goMoon_J159 (y : Nat) (x1 : Int32) (x2 : Int32) (x3 : Int32) (M : Mm) (kb4 : Int32 → Int32 → Int32 → Mm → Option (Int32 × Mm)) : Option (Int32 × Mm) :=
    bnd (x3 + (1 : Int32)) fun z9 =>
    kb4 x1 x2 z9 M
def f_X12_goMoon_L128 (y : Nat) (kb4 : Int32 → Int32 → Int32 → Mm → Option (Int32 × Mm)) : Nat → Int32 → Int32 → Int32 → Int32 → Mm → Option (Int32 × Mm)
  | 0, _, _, _, _, _ => none
  | n + 1, x1, x2, x3, x4, M =>
      if (5 : Int32) ≤ x4 then
        f_X12_goMoon_J159 y x1 x2 x3 M kb4
      else
        ck x4 120 <|
        ck (((24 : Int32) * x4) + x3) 120 <|
        bnd (up2 M (y + 5) (((24 : Int32) * x4) + x3).toNatClampNeg (M (y + 6) x4.toNatClampNeg)) fun M15 =>
        bnd (x4 + (1 : Int32)) fun z16 =>
        f_X12_goMoon_L128 y kb4 n x1 x2 x3 z16 M15
def f_X12_goMoon_J119 (y : Nat) (x1 : Int32) (x2 : Int32) (x3 : Int32) (x4 : Int32) (M : Mm) (kb4 : Int32 → Int32 → Int32 → Mm → Option (Int32 × Mm)) (kb47 : Int32 → Int32 → Int32 → Int32 → Mm → Option (Int32 × Mm)) : Option (Int32 × Mm) :=
    bnd (x4 + (1 : Int32)) fun z28 =>
    kb47 x1 x2 x3 z28 M
def f_X12_goMoon_J89 (y : Nat) (x1 : Int32) (x2 : Int32) (x3 : Int32) (x4 : Int32) (x5 : Int32) (s0 : Int32) (M : Mm) (kb4 : Int32 → Int32 → Int32 → Mm → Option (Int32 × Mm)) (kb47 : Int32 → Int32 → Int32 → Int32 → Mm → Option (Int32 × Mm)) : Option (Int32 × Mm) :=
    Option.bind (f_X12_isLane s0 M) fun r23 =>
    if r23 = 0 then
      bnd (x2 + x5) fun z27 =>
      f_X12_goMoon_J119 y x1 z27 x3 x4 M kb4 kb47
    else
      ck s0 120 <|
      ck s0 120 <|
      bnd (up2 M (y + 6) s0.toNatClampNeg ((M (y + 6) s0.toNatClampNeg) + x5)) fun M31 =>
      f_X12_goMoon_J119 y x1 x2 x3 x4 M31 kb4 kb47
def f_X12_goMoon_L47 (y : Nat) (kb4 : Int32 → Int32 → Int32 → Mm → Option (Int32 × Mm)) : Nat → Int32 → Int32 → Int32 → Int32 → Mm → Option (Int32 × Mm)
  | 0, _, _, _, _, _ => none
  | n + 1, x1, x2, x3, x4, M =>
      if (5 : Int32) ≤ x4 then
        f_X12_goMoon_L128 y kb4 2000 x1 x2 x3 (0 : Int32) M
      else
        ck (((24 : Int32) * x4) + x3) 120 <|
        bnd (M (y + 5) (((24 : Int32) * x4) + x3).toNatClampNeg) fun z18 =>
        Option.bind (f_X12_isBeside y x1 x4 M) fun r19 =>
        if r19 = 0 then
          f_X12_goMoon_J89 y x1 x2 x3 x4 z18 x4 M kb4 (fun x1 x2 x3 x4 M => f_X12_goMoon_L47 y kb4 n x1 x2 x3 x4 M)
        else
          Option.bind (f_X12_movedTo y x1 x4 M) fun r32 =>
          f_X12_goMoon_J89 y x1 x2 x3 x4 z18 r32 M kb4 (fun x1 x2 x3 x4 M => f_X12_goMoon_L47 y kb4 n x1 x2 x3 x4 M)
def f_X12_goMoon_L24 (y : Nat) (kb4 : Int32 → Int32 → Int32 → Mm → Option (Int32 × Mm)) : Nat → Int32 → Int32 → Int32 → Int32 → Mm → Option (Int32 × Mm)
  | 0, _, _, _, _, _ => none
  | n + 1, x1, x2, x3, x4, M =>
      if (5 : Int32) ≤ x4 then
        f_X12_goMoon_L47 y kb4 2000 x1 x2 x3 (0 : Int32) M
      else
        ck x4 120 <|
        bnd (up2 M (y + 6) x4.toNatClampNeg (0 : Int32)) fun M36 =>
        bnd (x4 + (1 : Int32)) fun z37 =>
        f_X12_goMoon_L24 y kb4 n x1 x2 x3 z37 M36
def f_X12_goMoon_L4 (y : Nat) : Nat → Int32 → Int32 → Int32 → Mm → Option (Int32 × Mm)
  | 0, _, _, _, _ => none
  | n + 1, x1, x2, x3, M =>
      Option.bind (f_X12_places y M) fun r1 =>
      if r1 ≤ x3 then
        some (x2, M)
      else
        Option.bind (f_X12_isBy y x1 x3 M) fun r5 =>
        if r5 = 0 then
          f_X12_goMoon_J159 y x1 x2 x3 M (fun x1 x2 x3 M => f_X12_goMoon_L4 y n x1 x2 x3 M)
        else
          f_X12_goMoon_L24 y (fun x1 x2 x3 M => f_X12_goMoon_L4 y n x1 x2 x3 M) 2000 x1 x2 x3 (0 : Int32) M
def f_X12_goMoon (y : Nat) (p0 : Int32) (M : Mm) : Option (Int32 × Mm) :=
  f_X12_goMoon_L4 y 2000 p0 (0 : Int32) (0 : Int32) M
def f_X12_goRound_J127 (y : Nat) (x2 : Int32) (s0 : Int32) (s1 : Int32) (M : Mm) (kb101 : Int32 → Int32 → Mm → Option (Int32 × Mm)) : Option (Int32 × Mm) :=
    bnd (s0 + s1) fun z13 =>
    bnd (x2 + (1 : Int32)) fun z14 =>
    kb101 z13 z14 M
def f_X12_goRound_L101 (y : Nat) : Nat → Int32 → Int32 → Mm → Option (Int32 × Mm)
  | 0, _, _, _ => none
  | n + 1, x1, x2, M =>
      Option.bind (f_X12_moons y M) fun r5 =>
      if r5 ≤ x2 then
        some (x1, M)
      else
        Option.bind (f_X12_isAwake y x2 M) fun r9 =>
        if r9 = 0 then
          f_X12_goRound_J127 y x2 x1 (0 : Int32) M (fun x1 x2 M => f_X12_goRound_L101 y n x1 x2 M)
        else
          bd2 (f_X12_goMoon y x2 M) fun r15 M17 =>
          f_X12_goRound_J127 y x2 x1 r15 M17 (fun x1 x2 M => f_X12_goRound_L101 y n x1 x2 M)
def f_X12_goRound_L56 (y : Nat) (kb2 : Int32 → Mm → Option (Int32 × Mm)) : Nat → Int32 → Int32 → Mm → Option (Int32 × Mm)
  | 0, _, _, _ => none
  | n + 1, x1, x2, M =>
      Option.bind (f_X12_places y M) fun r22 =>
      if r22 ≤ x2 then
        bnd (x1 + (1 : Int32)) fun z26 =>
        kb2 z26 M
      else
        ck x2 120 <|
        ck (((24 : Int32) * x1) + x2) 120 <|
        bnd (up2 M (y + 5) (((24 : Int32) * x1) + x2).toNatClampNeg (M (y + 6) x2.toNatClampNeg)) fun M29 =>
        bnd (x2 + (1 : Int32)) fun z30 =>
        f_X12_goRound_L56 y kb2 n x1 z30 M29
def f_X12_goRound_L9 (y : Nat) (kb2 : Int32 → Mm → Option (Int32 × Mm)) : Nat → Int32 → Int32 → Mm → Option (Int32 × Mm)
  | 0, _, _, _ => none
  | n + 1, x1, x2, M =>
      Option.bind (f_X12_places y M) fun r18 =>
      if r18 ≤ x2 then
        f_X12_goRound_L56 y kb2 2000 x1 (0 : Int32) M
      else
        ck ((1 : Int32) + x1) 913 <|
        Option.bind (f_X12_places y M) fun r32 =>
        cz r32 <|
        ck (((24 : Int32) * x1) + x2) 120 <|
        ck (jr (x2 + (M (y + 1) ((1 : Int32) + x1).toNatClampNeg)) r32) 120 <|
        bnd (up2 M (y + 6) (jr (x2 + (M (y + 1) ((1 : Int32) + x1).toNatClampNeg)) r32).toNatClampNeg (M (y + 5) (((24 : Int32) * x1) + x2).toNatClampNeg)) fun M38 =>
        bnd (x2 + (1 : Int32)) fun z39 =>
        f_X12_goRound_L9 y kb2 n x1 z39 M38
def f_X12_goRound_L2 (y : Nat) : Nat → Int32 → Mm → Option (Int32 × Mm)
  | 0, _, _ => none
  | n + 1, x1, M =>
      if (5 : Int32) ≤ x1 then
        Option.bind (f_X12_goMoons y M) fun M4 =>
        f_X12_goRound_L101 y 2000 (0 : Int32) (0 : Int32) M4
      else
        f_X12_goRound_L9 y (fun x1 M => f_X12_goRound_L2 y n x1 M) 2000 x1 (0 : Int32) M
def f_X12_goRound (y : Nat) (M : Mm) : Option (Int32 × Mm) :=
  f_X12_goRound_L2 y 2000 (0 : Int32) M
def f_X12_lossOf_L10 (y : Nat) : Nat → Int32 → Int32 → Int32 → Mm → Option (Int32 × Mm)
  | 0, _, _, _, _ => none
  | n + 1, x1, x3, x4, M =>
      if x1 ≤ x4 then
        some (x3, M)
      else
        bd2 (f_X12_goRound y M) fun r5 M7 =>
        bnd (x3 + r5) fun z8 =>
        bnd (x4 + (1 : Int32)) fun z9 =>
        f_X12_lossOf_L10 y n x1 z8 z9 M7
def f_X12_lossOf (y : Nat) (p0 : Int32) (p1 : Int32) (M : Mm) : Option (Int32 × Mm) :=
  Option.bind (f_X12_takeNow y p1 M) fun M3 =>
  f_X12_lossOf_L10 y 2000 p0 (0 : Int32) (0 : Int32) M3
def f_X12_fee_J15 (y : Nat) (M : Mm) (N : Ml) : Option (Int32 × Mm × Ml) :=
    bd2 (f_X12_bad y (-2 : Int32) M) fun r5 M7 =>
    some (r5, M7, N)
def f_X12_fee_L139 (y : Nat) : Nat → Int64 → Int32 → Int64 → Int64 → Mm → Ml → Option (Int32 × Mm × Ml)
  | 0, _, _, _, _, _, _ => none
  | n + 1, x4, x6, x7, x9, M, N =>
      if (lg_cmp x9 (0 : Int64)) = 0 then
        czL x7 <|
        bnd (up2L N y 4 (x4 / x7)) fun N27 =>
        czL x7 <|
        bnd (up2L N27 y 5 (x6.toInt64 / x7)) fun N29 =>
        some ((1 : Int32), M, N29)
      else
        czL x9 <|
        bnd (jrL x7 x9) fun z31 =>
        f_X12_fee_L139 y n x4 x6 x9 z31 M N
def f_X12_fee_J132 (y : Nat) (x4 : Int64) (x6 : Int32) (s0 : Int64) (M : Mm) (N : Ml) : Option (Int32 × Mm × Ml) :=
    bnd (x6.toInt64) fun z24 =>
    f_X12_fee_L139 y 2000 x4 x6 s0 z24 M N
def f_X12_fee_J102 (y : Nat) (x2 : Int32) (x3 : Int32) (x4 : Int64) (x6 : Int32) (M : Mm) (N : Ml) (kb32 : Int32 → Int32 → Int64 → Int32 → Mm → Ml → Option (Int32 × Mm × Ml)) : Option (Int32 × Mm × Ml) :=
    bnd (x6 + (1 : Int32)) fun z33 =>
    kb32 x2 x3 x4 z33 M N
def f_X12_fee_L32 (y : Nat) : Nat → Int32 → Int32 → Int64 → Int32 → Mm → Ml → Option (Int32 × Mm × Ml)
  | 0, _, _, _, _, _, _ => none
  | n + 1, x2, x3, x4, x6, M, N =>
      Option.bind (f_X12_all y M) fun r13 =>
      if r13 < x6 then
        Option.bind (f_X12_moons y M) fun r17 =>
        Option.bind (f_X12_factorial r17 M) fun r20 =>
        if 0 ≤ (lg_cmp x4 (0 : Int64)) then
          f_X12_fee_J132 y x4 r20 x4 M N
        else
          f_X12_fee_J132 y x4 r20 (-x4) M N
      else
        if (x6 &&& x3) = 0 then
          Option.bind (f_X12_bits x6 M) fun r34 =>
          Option.bind (f_X12_factorial r34 M) fun r37 =>
          Option.bind (f_X12_moons y M) fun r40 =>
          Option.bind (f_X12_bits x6 M) fun r43 =>
          Option.bind (f_X12_factorial ((r40 - (1 : Int32)) - r43) M) fun r46 =>
          bnd (r37.toInt64 * r46.toInt64) fun z49 =>
          bd2 (f_X12_lossOf y x2 (x6 ||| x3) M) fun r50 M52 =>
          bd2 (f_X12_lossOf y x2 x6 M52) fun r53 M55 =>
          bnd (x4 + (z49 * ((r50 - r53).toInt64))) fun z56 =>
          f_X12_fee_J102 y x2 x3 z56 x6 M55 N (fun x2 x3 x4 x6 M N => f_X12_fee_L32 y n x2 x3 x4 x6 M N)
        else
          f_X12_fee_J102 y x2 x3 x4 x6 M N (fun x2 x3 x4 x6 M N => f_X12_fee_L32 y n x2 x3 x4 x6 M N)
def f_X12_fee (y : Nat) (p0 : Int32) (p1 : Int32) (M : Mm) (N : Ml) : Option (Int32 × Mm × Ml) :=
  Option.bind (f_X12_isMoon y p0 M) fun r1 =>
  if r1 = 0 then
    f_X12_fee_J15 y M N
  else
    Option.bind (f_X12_isLong p1 M) fun r8 =>
    if r8 = 0 then
      f_X12_fee_J15 y M N
    else
      bnd (jsl (1 : Int32) p0) fun z12 =>
      f_X12_fee_L32 y 2000 p1 z12 (0 : Int64) (0 : Int32) M N
def f_X12_no (y : Nat) (M : Mm) : Option (Int32 × Mm) :=
  ck (1 : Int32) 3 <|
  ck (1 : Int32) 3 <|
  bnd (up2 M (y + 4) (1 : Int32).toNatClampNeg ((M (y + 4) (1 : Int32).toNatClampNeg) + (1 : Int32))) fun M3 =>
  some ((-3 : Int32), M3)
def f_X12_from_L33 (y : Nat) : Nat → Int32 → Int32 → Mm → Option (Int32 × Mm)
  | 0, _, _, _ => none
  | n + 1, x1, x2, M =>
      if (913 : Int32) ≤ x2 then
        some ((1 : Int32), M)
      else
        ck (((913 : Int32) * x1) + x2) 1826 <|
        ck x2 913 <|
        bnd (up2 M (y + 1) x2.toNatClampNeg (M (y + 2) (((913 : Int32) * x1) + x2).toNatClampNeg)) fun M10 =>
        bnd (x2 + (1 : Int32)) fun z11 =>
        f_X12_from_L33 y n x1 z11 M10
def f_X12_from (y : Nat) (p0 : Int32) (M : Mm) : Option (Int32 × Mm) :=
  Option.bind (f_X12_in p0.toInt64 (0 : Int64) (1 : Int64) M) fun r1 =>
  if r1 = 0 then
    bd2 (f_X12_bad y (-2 : Int32) M) fun r15 M17 =>
    some (r15, M17)
  else
    ck p0 2 <|
    if (M (y + 3) p0.toNatClampNeg) = 0 then
      bd2 (f_X12_no y M) fun r12 M14 =>
      some (r12, M14)
    else
      f_X12_from_L33 y 2000 p0 (0 : Int32) M
def f_X12_full (y : Nat) (M : Mm) : Option (Int32 × Mm) :=
  ck (2 : Int32) 3 <|
  ck (2 : Int32) 3 <|
  bnd (up2 M (y + 4) (2 : Int32).toNatClampNeg ((M (y + 4) (2 : Int32).toNatClampNeg) + (1 : Int32))) fun M3 =>
  some ((-4 : Int32), M3)
def f_X12_laneSum (y : Nat) (p0 : Int32) (M : Mm) : Option (Int32) :=
  Option.bind (f_X12_places y M) fun r1 =>
  Option.bind (f_X12_sumOf (y + 1) 913 ((6 : Int32) + ((24 : Int32) * p0)) r1 M) fun r4 =>
  some (r4)
def f_X12_game_J22 (y : Nat) (M : Mm) : Option (Int32 × Mm) :=
    bd2 (f_X12_bad y (-100000 : Int32) M) fun r5 M7 =>
    some (r5, M7)
def f_X12_game_J290 (y : Nat) (x1 : Int32) (x2 : Int32) (x3 : Int32) (x5 : Int32) (x6 : Int32) (s0 : Int32) (M : Mm) (kb96 : Int32 → Int32 → Int32 → Int32 → Int32 → Mm → Option (Int32 × Mm)) (kb105 : Int32 → Int32 → Int32 → Int32 → Int32 → Int32 → Mm → Option (Int32 × Mm)) : Option (Int32 × Mm) :=
    bnd (x6 + (1 : Int32)) fun z24 =>
    kb105 x1 x2 x3 s0 x5 z24 M
def f_X12_game_J288 (y : Nat) (x1 : Int32) (x2 : Int32) (x3 : Int32) (x4 : Int32) (x5 : Int32) (x6 : Int32) (M : Mm) (kb96 : Int32 → Int32 → Int32 → Int32 → Int32 → Mm → Option (Int32 × Mm)) (kb105 : Int32 → Int32 → Int32 → Int32 → Int32 → Int32 → Mm → Option (Int32 × Mm)) : Option (Int32 × Mm) :=
    f_X12_game_J290 y x1 x2 x3 x5 x6 x4 M kb96 kb105
def f_X12_game_J248 (y : Nat) (x1 : Int32) (x2 : Int32) (x3 : Int32) (x4 : Int32) (x5 : Int32) (x6 : Int32) (x8 : Int32) (x9 : Int32) (s0 : Int32) (M : Mm) (kb96 : Int32 → Int32 → Int32 → Int32 → Int32 → Mm → Option (Int32 × Mm)) (kb105 : Int32 → Int32 → Int32 → Int32 → Int32 → Int32 → Mm → Option (Int32 × Mm)) (kb143 : Int32 → Int32 → Int32 → Int32 → Int32 → Int32 → Int32 → Int32 → Int32 → Mm → Option (Int32 × Mm)) : Option (Int32 × Mm) :=
    bnd (x9 + (1 : Int32)) fun z30 =>
    kb143 x1 x2 x3 x4 x5 x6 s0 x8 z30 M
def f_X12_game_J246 (y : Nat) (x1 : Int32) (x2 : Int32) (x3 : Int32) (x4 : Int32) (x5 : Int32) (x6 : Int32) (x7 : Int32) (x8 : Int32) (x9 : Int32) (M : Mm) (kb96 : Int32 → Int32 → Int32 → Int32 → Int32 → Mm → Option (Int32 × Mm)) (kb105 : Int32 → Int32 → Int32 → Int32 → Int32 → Int32 → Mm → Option (Int32 × Mm)) (kb143 : Int32 → Int32 → Int32 → Int32 → Int32 → Int32 → Int32 → Int32 → Int32 → Mm → Option (Int32 × Mm)) : Option (Int32 × Mm) :=
    f_X12_game_J248 y x1 x2 x3 x4 x5 x6 x8 x9 x7 M kb96 kb105 kb143
def f_X12_game_J227 (y : Nat) (x1 : Int32) (x2 : Int32) (x3 : Int32) (x4 : Int32) (x5 : Int32) (x6 : Int32) (x7 : Int32) (x9 : Int32) (x10 : Int32) (x11 : Int32) (s0 : Int32) (M : Mm) (kb96 : Int32 → Int32 → Int32 → Int32 → Int32 → Mm → Option (Int32 × Mm)) (kb105 : Int32 → Int32 → Int32 → Int32 → Int32 → Int32 → Mm → Option (Int32 × Mm)) (kb143 : Int32 → Int32 → Int32 → Int32 → Int32 → Int32 → Int32 → Int32 → Int32 → Mm → Option (Int32 × Mm)) : Option (Int32 × Mm) :=
    if x10 = 0 then
      f_X12_game_J246 y x1 x2 x3 x4 x5 x6 x7 s0 x9 M kb96 kb105 kb143
    else
      if x11 ≤ x7 then
        f_X12_game_J246 y x1 x2 x3 x4 x5 x6 x7 s0 x9 M kb96 kb105 kb143
      else
        f_X12_game_J248 y x1 x2 x3 x4 x5 x6 s0 x9 x11 M kb96 kb105 kb143
def f_X12_game_J225 (y : Nat) (x1 : Int32) (x2 : Int32) (x3 : Int32) (x4 : Int32) (x5 : Int32) (x6 : Int32) (x7 : Int32) (x8 : Int32) (x9 : Int32) (x10 : Int32) (x11 : Int32) (M : Mm) (kb96 : Int32 → Int32 → Int32 → Int32 → Int32 → Mm → Option (Int32 × Mm)) (kb105 : Int32 → Int32 → Int32 → Int32 → Int32 → Int32 → Mm → Option (Int32 × Mm)) (kb143 : Int32 → Int32 → Int32 → Int32 → Int32 → Int32 → Int32 → Int32 → Int32 → Mm → Option (Int32 × Mm)) : Option (Int32 × Mm) :=
    f_X12_game_J227 y x1 x2 x3 x4 x5 x6 x7 x9 x10 x11 x8 M kb96 kb105 kb143
def f_X12_game_J206 (y : Nat) (x1 : Int32) (x2 : Int32) (x3 : Int32) (x4 : Int32) (x5 : Int32) (x6 : Int32) (x7 : Int32) (x8 : Int32) (x9 : Int32) (x10 : Int32) (s0 : Int32) (M : Mm) (kb96 : Int32 → Int32 → Int32 → Int32 → Int32 → Mm → Option (Int32 × Mm)) (kb105 : Int32 → Int32 → Int32 → Int32 → Int32 → Int32 → Mm → Option (Int32 × Mm)) (kb143 : Int32 → Int32 → Int32 → Int32 → Int32 → Int32 → Int32 → Int32 → Int32 → Mm → Option (Int32 × Mm)) : Option (Int32 × Mm) :=
    if x10 = 0 then
      f_X12_game_J225 y x1 x2 x3 x4 x5 x6 x7 x8 x9 x10 s0 M kb96 kb105 kb143
    else
      if s0 ≤ x7 then
        f_X12_game_J225 y x1 x2 x3 x4 x5 x6 x7 x8 x9 x10 s0 M kb96 kb105 kb143
      else
        f_X12_game_J227 y x1 x2 x3 x4 x5 x6 x7 x9 x10 s0 x9 M kb96 kb105 kb143
def f_X12_game_J165 (y : Nat) (x1 : Int32) (x2 : Int32) (x3 : Int32) (x4 : Int32) (x5 : Int32) (x6 : Int32) (x7 : Int32) (x8 : Int32) (x9 : Int32) (s0 : Int32) (M : Mm) (kb96 : Int32 → Int32 → Int32 → Int32 → Int32 → Mm → Option (Int32 × Mm)) (kb105 : Int32 → Int32 → Int32 → Int32 → Int32 → Int32 → Mm → Option (Int32 × Mm)) (kb143 : Int32 → Int32 → Int32 → Int32 → Int32 → Int32 → Int32 → Int32 → Int32 → Mm → Option (Int32 × Mm)) : Option (Int32 × Mm) :=
    if s0 = 0 then
      f_X12_game_J206 y x1 x2 x3 x4 x5 x6 x7 x8 x9 s0 (-100000000 : Int32) M kb96 kb105 kb143
    else
      Option.bind (f_X12_laneSum y x9 M) fun r33 =>
      ck (((32 : Int32) * (x5 - (1 : Int32))) + (x6 &&& ((jsl (1 : Int32) x9) ^^^ (-1 : Int32)))) 224 <|
      f_X12_game_J206 y x1 x2 x3 x4 x5 x6 x7 x8 x9 s0 (r33 - (M (y + 10) (((32 : Int32) * (x5 - (1 : Int32))) + (x6 &&& ((jsl (1 : Int32) x9) ^^^ (-1 : Int32)))).toNatClampNeg)) M kb96 kb105 kb143
def f_X12_game_L143 (y : Nat) (kb96 : Int32 → Int32 → Int32 → Int32 → Int32 → Mm → Option (Int32 × Mm)) (kb105 : Int32 → Int32 → Int32 → Int32 → Int32 → Int32 → Mm → Option (Int32 × Mm)) : Nat → Int32 → Int32 → Int32 → Int32 → Int32 → Int32 → Int32 → Int32 → Int32 → Mm → Option (Int32 × Mm)
  | 0, _, _, _, _, _, _, _, _, _, _ => none
  | n + 1, x1, x2, x3, x4, x5, x6, x7, x8, x9, M =>
      if (5 : Int32) ≤ x9 then
        ck (((32 : Int32) * x5) + x6) 224 <|
        bnd (up2 M (y + 10) (((32 : Int32) * x5) + x6).toNatClampNeg x7) fun M22 =>
        if x5 = x1 then
          if x6 = x3 then
            f_X12_game_J290 y x1 x2 x3 x5 x6 x8 M22 kb96 kb105
          else
            f_X12_game_J288 y x1 x2 x3 x4 x5 x6 M22 kb96 kb105
        else
          f_X12_game_J288 y x1 x2 x3 x4 x5 x6 M22 kb96 kb105
      else
        if ((jsr x6 x9) &&& (1 : Int32)) = (1 : Int32) then
          f_X12_game_J165 y x1 x2 x3 x4 x5 x6 x7 x8 x9 (1 : Int32) M kb96 kb105 (fun x1 x2 x3 x4 x5 x6 x7 x8 x9 M => f_X12_game_L143 y kb96 kb105 n x1 x2 x3 x4 x5 x6 x7 x8 x9 M)
        else
          f_X12_game_J165 y x1 x2 x3 x4 x5 x6 x7 x8 x9 (0 : Int32) M kb96 kb105 (fun x1 x2 x3 x4 x5 x6 x7 x8 x9 M => f_X12_game_L143 y kb96 kb105 n x1 x2 x3 x4 x5 x6 x7 x8 x9 M)
def f_X12_game_J135 (y : Nat) (x1 : Int32) (x2 : Int32) (x3 : Int32) (x4 : Int32) (x5 : Int32) (x6 : Int32) (s0 : Int32) (M : Mm) (kb96 : Int32 → Int32 → Int32 → Int32 → Int32 → Mm → Option (Int32 × Mm)) (kb105 : Int32 → Int32 → Int32 → Int32 → Int32 → Int32 → Mm → Option (Int32 × Mm)) : Option (Int32 × Mm) :=
    f_X12_game_L143 y kb96 kb105 2000 x1 x2 x3 x4 x5 x6 s0 (-1 : Int32) (0 : Int32) M
def f_X12_game_L105 (y : Nat) (kb96 : Int32 → Int32 → Int32 → Int32 → Int32 → Mm → Option (Int32 × Mm)) : Nat → Int32 → Int32 → Int32 → Int32 → Int32 → Int32 → Mm → Option (Int32 × Mm)
  | 0, _, _, _, _, _, _, _ => none
  | n + 1, x1, x2, x3, x4, x5, x6, M =>
      if (32 : Int32) ≤ x6 then
        bnd (x5 + (1 : Int32)) fun z18 =>
        kb96 x1 x2 x3 x4 z18 M
      else
        if x6 = 0 then
          ck ((32 : Int32) * (x5 - (1 : Int32))) 224 <|
          f_X12_game_J135 y x1 x2 x3 x4 x5 x6 (-(M (y + 10) ((32 : Int32) * (x5 - (1 : Int32))).toNatClampNeg)) M kb96 (fun x1 x2 x3 x4 x5 x6 M => f_X12_game_L105 y kb96 n x1 x2 x3 x4 x5 x6 M)
        else
          f_X12_game_J135 y x1 x2 x3 x4 x5 x6 (-100000000 : Int32) M kb96 (fun x1 x2 x3 x4 x5 x6 M => f_X12_game_L105 y kb96 n x1 x2 x3 x4 x5 x6 M)
def f_X12_game_L96 (y : Nat) : Nat → Int32 → Int32 → Int32 → Int32 → Int32 → Mm → Option (Int32 × Mm)
  | 0, _, _, _, _, _, _ => none
  | n + 1, x1, x2, x3, x4, x5, M =>
      if x1 < x5 then
        if x2 = 0 then
          ck (((32 : Int32) * x1) + x3) 224 <|
          some ((M (y + 10) (((32 : Int32) * x1) + x3).toNatClampNeg), M)
        else
          some (x4, M)
      else
        f_X12_game_L105 y (fun x1 x2 x3 x4 x5 M => f_X12_game_L96 y n x1 x2 x3 x4 x5 M) 2000 x1 x2 x3 x4 x5 (0 : Int32) M
def f_X12_game_L72 (y : Nat) : Nat → Int32 → Int32 → Int32 → Int32 → Int32 → Mm → Option (Int32 × Mm)
  | 0, _, _, _, _, _, _ => none
  | n + 1, x1, x2, x3, x4, x5, M =>
      if (32 : Int32) ≤ x5 then
        f_X12_game_L96 y 2000 x1 x2 x3 x4 (1 : Int32) M
      else
        ck x5 224 <|
        bnd (up2 M (y + 10) x5.toNatClampNeg (0 : Int32)) fun M39 =>
        bnd (x5 + (1 : Int32)) fun z40 =>
        f_X12_game_L72 y n x1 x2 x3 x4 z40 M39
def f_X12_game_J58 (y : Nat) (x1 : Int32) (x2 : Int32) (x4 : Int32) (s0 : Int32) (s1 : Int32) (M : Mm) (kb34 : Int32 → Int32 → Int32 → Int32 → Mm → Option (Int32 × Mm)) : Option (Int32 × Mm) :=
    bnd (s0 ||| s1) fun z45 =>
    bnd (x4 + (1 : Int32)) fun z46 =>
    kb34 x1 x2 z45 z46 M
def f_X12_game_L34 (y : Nat) : Nat → Int32 → Int32 → Int32 → Int32 → Mm → Option (Int32 × Mm)
  | 0, _, _, _, _, _ => none
  | n + 1, x1, x2, x3, x4, M =>
      if (5 : Int32) ≤ x4 then
        f_X12_game_L72 y 2000 x1 x2 x3 (-1 : Int32) (0 : Int32) M
      else
        Option.bind (f_X12_laneSum y x4 M) fun r41 =>
        if r41 ≤ 0 then
          f_X12_game_J58 y x1 x2 x4 x3 (0 : Int32) M (fun x1 x2 x3 x4 M => f_X12_game_L34 y n x1 x2 x3 x4 M)
        else
          f_X12_game_J58 y x1 x2 x4 x3 (jsl (1 : Int32) x4) M (fun x1 x2 x3 x4 M => f_X12_game_L34 y n x1 x2 x3 x4 M)
def f_X12_game (y : Nat) (p0 : Int32) (p1 : Int32) (M : Mm) : Option (Int32 × Mm) :=
  Option.bind (f_X12_in p0.toInt64 (1 : Int64) (6 : Int64) M) fun r1 =>
  if r1 = 0 then
    f_X12_game_J22 y M
  else
    Option.bind (f_X12_in p1.toInt64 (0 : Int64) (1 : Int64) M) fun r8 =>
    if r8 = 0 then
      f_X12_game_J22 y M
    else
      f_X12_game_L34 y 2000 p0 p1 (0 : Int32) (0 : Int32) M
def f_X12_isSmall (p0 : Int32) (M : Mm) : Option (Int32) :=
  Option.bind (f_X12_in p0.toInt64 (97 : Int64) (122 : Int64) M) fun r1 =>
  cb r1 <|
  some (r1)
def f_X12_isFigure (p0 : Int32) (M : Mm) : Option (Int32) :=
  Option.bind (f_X12_in p0.toInt64 (48 : Int64) (57 : Int64) M) fun r1 =>
  cb r1 <|
  some (r1)
def f_X12_look_J299 (y : Nat) (s1 : Int32) (M : Mm) : Option (Mm) :=
    bnd (up2 M y 21 s1) fun M24 =>
    some (M24)
def f_X12_look_J295 (y : Nat) (M : Mm) : Option (Mm) :=
    f_X12_look_J299 y (M y 21) M
def f_X12_look_J274 (y : Nat) (M : Mm) : Option (Mm) :=
    if (M y 21) = (2 : Int32) then
      if (M y 20) ≤ (3 : Int32) then
        f_X12_look_J295 y M
      else
        f_X12_look_J299 y (4 : Int32) M
    else
      f_X12_look_J295 y M
def f_X12_look_L218 (y : Nat) : Nat → Int32 → Mm → Option (Mm)
  | 0, _, _ => none
  | n + 1, x4, M =>
      if (M y 20) ≤ x4 then
        f_X12_look_J274 y M
      else
        if (3 : Int32) ≤ x4 then
          f_X12_look_J274 y M
        else
          if (M y 21) = (2 : Int32) then
            ck ((M y 19) + x4) 250 <|
            bnd (up2 M y 22 ((((10 : Int32) * (M y 22)) + (M (y + 11) ((M y 19) + x4).toNatClampNeg)) - (48 : Int32))) fun M29 =>
            bnd (x4 + (1 : Int32)) fun z30 =>
            f_X12_look_L218 y n z30 M29
          else
            f_X12_look_J274 y M
def f_X12_look_J215 (y : Nat) (M : Mm) : Option (Mm) :=
    f_X12_look_L218 y 2000 (0 : Int32) M
def f_X12_look_J208 (y : Nat) (x3 : Int32) (s1 : Int32) (s2 : Int32) (M : Mm) (kb136 : Int32 → Mm → Option (Mm)) : Option (Mm) :=
    bnd (up2 M y 20 (s1 + s2)) fun M39 =>
    kb136 x3 M39
def f_X12_look_J193 (y : Nat) (s0 : Int32) (M : Mm) (kb136 : Int32 → Mm → Option (Mm)) : Option (Mm) :=
    if s0 = 0 then
      f_X12_look_J208 y s0 (M y 20) (0 : Int32) M kb136
    else
      f_X12_look_J208 y s0 (M y 20) (1 : Int32) M kb136
def f_X12_look_L136 (y : Nat) : Nat → Int32 → Mm → Option (Mm)
  | 0, _, _ => none
  | n + 1, x3, M =>
      if x3 = 0 then
        f_X12_look_J215 y M
      else
        if (M y 18) ≤ ((M y 19) + (M y 20)) then
          f_X12_look_J215 y M
        else
          ck ((M y 19) + (M y 20)) 250 <|
          bnd (M (y + 11) ((M y 19) + (M y 20)).toNatClampNeg) fun z33 =>
          if (M y 21) = (1 : Int32) then
            Option.bind (f_X12_isSmall z33 M) fun r40 =>
            f_X12_look_J193 y r40 M (fun x3 M => f_X12_look_L136 y n x3 M)
          else
            Option.bind (f_X12_isFigure z33 M) fun r35 =>
            f_X12_look_J193 y r35 M (fun x3 M => f_X12_look_L136 y n x3 M)
def f_X12_look_J135 (y : Nat) (s0 : Int32) (M : Mm) : Option (Mm) :=
    f_X12_look_L136 y 2000 s0 M
def f_X12_look_J114 (y : Nat) (s1 : Int32) (M : Mm) : Option (Mm) :=
    bnd (up2 M y 21 s1) fun M18 =>
    bnd (up2 M18 y 20 (1 : Int32)) fun M19 =>
    if (3 : Int32) ≤ (M19 y 21) then
      f_X12_look_J135 y (0 : Int32) M19
    else
      f_X12_look_J135 y (1 : Int32) M19
def f_X12_look_J43 (y : Nat) (M : Mm) : Option (Mm) :=
    bnd (up2 M y 20 (0 : Int32)) fun M3 =>
    bnd (up2 M3 y 21 (0 : Int32)) fun M4 =>
    bnd (up2 M4 y 22 (0 : Int32)) fun M5 =>
    if (M5 y 19) = (M5 y 18) then
      some (M5)
    else
      ck (M5 y 19) 250 <|
      bnd (M5 (y + 11) (M5 y 19).toNatClampNeg) fun z8 =>
      Option.bind (f_X12_isSmall z8 M5) fun r9 =>
      if r9 = 0 then
        Option.bind (f_X12_isFigure z8 M5) fun r13 =>
        if r13 = 0 then
          if z8 = (59 : Int32) then
            f_X12_look_J114 y (3 : Int32) M5
          else
            f_X12_look_J114 y (4 : Int32) M5
        else
          f_X12_look_J114 y (2 : Int32) M5
      else
        f_X12_look_J114 y (1 : Int32) M5
def f_X12_look_L5 (y : Nat) : Nat → Mm → Option (Mm)
  | 0, _ => none
  | n + 1, M =>
      if (M y 18) ≤ (M y 19) then
        f_X12_look_J43 y M
      else
        ck (M y 19) 250 <|
        if (M (y + 11) (M y 19).toNatClampNeg) = (32 : Int32) then
          bnd (up2 M y 19 ((M y 19) + (1 : Int32))) fun M45 =>
          f_X12_look_L5 y n M45
        else
          f_X12_look_J43 y M
def f_X12_look (y : Nat) (p0 : Int32) (M : Mm) : Option (Mm) :=
  bnd (up2 M y 19 p0) fun M1 =>
  f_X12_look_L5 y 2000 M1
def f_X12_goOn (y : Nat) (M : Mm) : Option (Mm) :=
  Option.bind (f_X12_look y ((M y 19) + (M y 20)) M) fun M3 =>
  some (M3)
def f_X12_goOneOn_L26 (y : Nat) : Nat → Int32 → Int32 → Mm → Option (Mm)
  | 0, _, _, _ => none
  | n + 1, x3, x4, M =>
      if x3 ≤ x4 then
        some (M)
      else
        Option.bind (f_X12_isLane (M y 11) M) fun r11 =>
        if r11 = 0 then
          some (M)
        else
          Option.bind (f_X12_goOne y M) fun M17 =>
          bnd (x4 + (1 : Int32)) fun z18 =>
          f_X12_goOneOn_L26 y n x3 z18 M17
def f_X12_goOneOn (y : Nat) (p0 : Int32) (p1 : Int32) (p2 : Int32) (M : Mm) : Option (Mm) :=
  bnd (up2 M y 11 p0) fun M1 =>
  bnd (up2 M1 y 12 p1) fun M2 =>
  bnd (up2 M2 y 13 (0 : Int32)) fun M3 =>
  Option.bind (f_X12_all y M3) fun r4 =>
  Option.bind (f_X12_takeNow y r4 M3) fun M9 =>
  f_X12_goOneOn_L26 y 2000 p2 (0 : Int32) M9
def f_X12_image_L19 (y : Nat) : Nat → Int32 → Int32 → Mm → Option (Int32 × Mm)
  | 0, _, _, _ => none
  | n + 1, x1, x2, M =>
      if (913 : Int32) ≤ x2 then
        ck x1 2 <|
        bnd (up2 M (y + 3) x1.toNatClampNeg (1 : Int32)) fun M7 =>
        some ((1 : Int32), M7)
      else
        ck x2 913 <|
        ck (((913 : Int32) * x1) + x2) 1826 <|
        bnd (up2 M (y + 2) (((913 : Int32) * x1) + x2).toNatClampNeg (M (y + 1) x2.toNatClampNeg)) fun M10 =>
        bnd (x2 + (1 : Int32)) fun z11 =>
        f_X12_image_L19 y n x1 z11 M10
def f_X12_image (y : Nat) (p0 : Int32) (M : Mm) : Option (Int32 × Mm) :=
  Option.bind (f_X12_in p0.toInt64 (0 : Int64) (1 : Int64) M) fun r1 =>
  if r1 = 0 then
    bd2 (f_X12_bad y (-2 : Int32) M) fun r12 M14 =>
    some (r12, M14)
  else
    f_X12_image_L19 y 2000 p0 (0 : Int32) M
def f_X12_isPlace (y : Nat) (p0 : Int32) (M : Mm) : Option (Int32) :=
  Option.bind (f_X12_places y M) fun r1 =>
  Option.bind (f_X12_in p0.toInt64 (0 : Int64) ((r1 - (1 : Int32)).toInt64) M) fun r4 =>
  cb r4 <|
  some (r4)
def f_X12_isRoad_J32 (y : Nat) (M : Mm) (x1 : Int32) (x3 : Int32) (s0 : Int32) (kb4 : Int32 → Int32 → Int32 → Option (Int32)) : Option (Int32) :=
    bnd (x3 + (1 : Int32)) fun z4 =>
    kb4 x1 s0 z4
def f_X12_isRoad_J31 (y : Nat) (M : Mm) (x1 : Int32) (x3 : Int32) (kb4 : Int32 → Int32 → Int32 → Option (Int32)) : Option (Int32) :=
    f_X12_isRoad_J32 y M x1 x3 (0 : Int32) kb4
def f_X12_isRoad_L4 (y : Nat) (M : Mm) : Nat → Int32 → Int32 → Int32 → Option (Int32)
  | 0, _, _, _ => none
  | n + 1, x1, x2, x3 =>
      if (5 : Int32) ≤ x3 then
        cb x2 <|
        some (x2)
      else
        if x2 = 0 then
          f_X12_isRoad_J31 y M x1 x3 (fun x1 x2 x3 => f_X12_isRoad_L4 y M n x1 x2 x3)
        else
          ck (((24 : Int32) * x3) + x1) 120 <|
          if (M (y + 5) (((24 : Int32) * x3) + x1).toNatClampNeg) = 0 then
            f_X12_isRoad_J32 y M x1 x3 (1 : Int32) (fun x1 x2 x3 => f_X12_isRoad_L4 y M n x1 x2 x3)
          else
            f_X12_isRoad_J31 y M x1 x3 (fun x1 x2 x3 => f_X12_isRoad_L4 y M n x1 x2 x3)
def f_X12_isRoad (y : Nat) (p0 : Int32) (M : Mm) : Option (Int32) :=
  f_X12_isRoad_L4 y M 2000 p0 (1 : Int32) (0 : Int32)
def f_X12_isTold_J53 (y : Nat) (M : Mm) (x1 : Int32) (x2 : Int32) (x4 : Int32) (s0 : Int32) (kb5 : Int32 → Int32 → Int32 → Int32 → Option (Int32)) : Option (Int32) :=
    bnd (x4 + (1 : Int32)) fun z4 =>
    kb5 x1 x2 s0 z4
def f_X12_isTold_J52 (y : Nat) (M : Mm) (x1 : Int32) (x2 : Int32) (x4 : Int32) (kb5 : Int32 → Int32 → Int32 → Int32 → Option (Int32)) : Option (Int32) :=
    f_X12_isTold_J53 y M x1 x2 x4 (0 : Int32) kb5
def f_X12_isTold_J33 (y : Nat) (M : Mm) (x1 : Int32) (x2 : Int32) (x4 : Int32) (s0 : Int32) (s1 : Int32) (kb5 : Int32 → Int32 → Int32 → Int32 → Option (Int32)) : Option (Int32) :=
    ck ((143 : Int32) + x4) 913 <|
    if (s0 - s1) = (M (y + 1) ((143 : Int32) + x4).toNatClampNeg) then
      f_X12_isTold_J53 y M x1 x2 x4 (1 : Int32) kb5
    else
      f_X12_isTold_J52 y M x1 x2 x4 kb5
def f_X12_isTold_L5 (y : Nat) (M : Mm) : Nat → Int32 → Int32 → Int32 → Int32 → Option (Int32)
  | 0, _, _, _, _ => none
  | n + 1, x1, x2, x3, x4 =>
      if (5 : Int32) ≤ x4 then
        cb x3 <|
        some (x3)
      else
        if x3 = 0 then
          f_X12_isTold_J52 y M x1 x2 x4 (fun x1 x2 x3 x4 => f_X12_isTold_L5 y M n x1 x2 x3 x4)
        else
          ck x4 5 <|
          if x4 = x1 then
            f_X12_isTold_J33 y M x1 x2 x4 (M (y + 9) x4.toNatClampNeg) x2 (fun x1 x2 x3 x4 => f_X12_isTold_L5 y M n x1 x2 x3 x4)
          else
            f_X12_isTold_J33 y M x1 x2 x4 (M (y + 9) x4.toNatClampNeg) (0 : Int32) (fun x1 x2 x3 x4 => f_X12_isTold_L5 y M n x1 x2 x3 x4)
def f_X12_isTold (y : Nat) (p0 : Int32) (p1 : Int32) (M : Mm) : Option (Int32) :=
  f_X12_isTold_L5 y M 2000 p0 p1 (1 : Int32) (0 : Int32)
def f_X12_isWord_J113 (y : Nat) (M : Mm) (x1 : Int32) (x2 : Int32) (x3 : Int32) (x4 : Int32) (x5 : Int32) (x6 : Int32) (x8 : Int32) (s0 : Int32) (kb39 : Int32 → Int32 → Int32 → Int32 → Int32 → Int32 → Int32 → Int32 → Option (Int32)) : Option (Int32) :=
    bnd (x8 + (1 : Int32)) fun z13 =>
    kb39 x1 x2 x3 x4 x5 x6 s0 z13
def f_X12_isWord_J105 (y : Nat) (M : Mm) (x1 : Int32) (x2 : Int32) (x3 : Int32) (x4 : Int32) (x5 : Int32) (x6 : Int32) (x8 : Int32) (s0 : Int32) (s1 : Int32) (kb39 : Int32 → Int32 → Int32 → Int32 → Int32 → Int32 → Int32 → Int32 → Option (Int32)) : Option (Int32) :=
    if s0 = s1 then
      f_X12_isWord_J113 y M x1 x2 x3 x4 x5 x6 x8 (1 : Int32) kb39
    else
      f_X12_isWord_J113 y M x1 x2 x3 x4 x5 x6 x8 (0 : Int32) kb39
def f_X12_isWord_L39 (y : Nat) (M : Mm) : Nat → Int32 → Int32 → Int32 → Int32 → Int32 → Int32 → Int32 → Int32 → Option (Int32)
  | 0, _, _, _, _, _, _, _, _ => none
  | n + 1, x1, x2, x3, x4, x5, x6, x7, x8 =>
      if x6 ≤ x8 then
        cb x7 <|
        some (x7)
      else
        if x7 = 0 then
          cb x7 <|
          some (x7)
        else
          ck ((M y 19) + x8) 250 <|
          if x8 = 0 then
            f_X12_isWord_J105 y M x1 x2 x3 x4 x5 x6 x8 (M (y + 11) ((M y 19) + x8).toNatClampNeg) x1 (fun x1 x2 x3 x4 x5 x6 x7 x8 => f_X12_isWord_L39 y M n x1 x2 x3 x4 x5 x6 x7 x8)
          else
            if x8 = (1 : Int32) then
              f_X12_isWord_J105 y M x1 x2 x3 x4 x5 x6 x8 (M (y + 11) ((M y 19) + x8).toNatClampNeg) x2 (fun x1 x2 x3 x4 x5 x6 x7 x8 => f_X12_isWord_L39 y M n x1 x2 x3 x4 x5 x6 x7 x8)
            else
              if x8 = (2 : Int32) then
                f_X12_isWord_J105 y M x1 x2 x3 x4 x5 x6 x8 (M (y + 11) ((M y 19) + x8).toNatClampNeg) x3 (fun x1 x2 x3 x4 x5 x6 x7 x8 => f_X12_isWord_L39 y M n x1 x2 x3 x4 x5 x6 x7 x8)
              else
                if x8 = (3 : Int32) then
                  f_X12_isWord_J105 y M x1 x2 x3 x4 x5 x6 x8 (M (y + 11) ((M y 19) + x8).toNatClampNeg) x4 (fun x1 x2 x3 x4 x5 x6 x7 x8 => f_X12_isWord_L39 y M n x1 x2 x3 x4 x5 x6 x7 x8)
                else
                  f_X12_isWord_J105 y M x1 x2 x3 x4 x5 x6 x8 (M (y + 11) ((M y 19) + x8).toNatClampNeg) x5 (fun x1 x2 x3 x4 x5 x6 x7 x8 => f_X12_isWord_L39 y M n x1 x2 x3 x4 x5 x6 x7 x8)
def f_X12_isWord_J34 (y : Nat) (M : Mm) (x1 : Int32) (x2 : Int32) (x3 : Int32) (x4 : Int32) (x5 : Int32) (x6 : Int32) (s0 : Int32) : Option (Int32) :=
    f_X12_isWord_L39 y M 2000 x1 x2 x3 x4 x5 x6 s0 (0 : Int32)
def f_X12_isWord_J33 (y : Nat) (M : Mm) (x1 : Int32) (x2 : Int32) (x3 : Int32) (x4 : Int32) (x5 : Int32) (x6 : Int32) : Option (Int32) :=
    f_X12_isWord_J34 y M x1 x2 x3 x4 x5 x6 (0 : Int32)
def f_X12_isWord_J10 (y : Nat) (M : Mm) (x1 : Int32) (x2 : Int32) (x3 : Int32) (x4 : Int32) (x5 : Int32) (s0 : Int32) : Option (Int32) :=
    if (M y 21) = (1 : Int32) then
      if (M y 20) = s0 then
        f_X12_isWord_J34 y M x1 x2 x3 x4 x5 s0 (1 : Int32)
      else
        f_X12_isWord_J33 y M x1 x2 x3 x4 x5 s0
    else
      f_X12_isWord_J33 y M x1 x2 x3 x4 x5 s0
def f_X12_isWord (y : Nat) (p0 : Int32) (p1 : Int32) (p2 : Int32) (p3 : Int32) (p4 : Int32) (M : Mm) : Option (Int32) :=
  if p4 = 0 then
    f_X12_isWord_J10 y M p0 p1 p2 p3 p4 (4 : Int32)
  else
    f_X12_isWord_J10 y M p0 p1 p2 p3 p4 (5 : Int32)
def f_X12_lastPlace (y : Nat) (M : Mm) : Option (Int32) :=
  ck (0 : Int32) 151 <|
  some (((M (y + 12) (0 : Int32).toNatClampNeg) - (1 : Int32)))
def f_X12_layMoon (p0 : Nat) (p0n : Nat) (p1 : Int32) (p2 : Int32) (p3 : Int32) (p4 : Int32) (M : Mm) : Option (Mm) :=
  ck (126 : Int32) p0n <|
  bnd ((127 : Int32) + ((4 : Int32) * (M p0 (126 : Int32).toNatClampNeg))) fun z2 =>
  ck (z2 + (0 : Int32)) p0n <|
  bnd (up2 M p0 (z2 + (0 : Int32)).toNatClampNeg p1) fun M4 =>
  ck (z2 + (1 : Int32)) p0n <|
  bnd (up2 M4 p0 (z2 + (1 : Int32)).toNatClampNeg p2) fun M6 =>
  ck (z2 + (2 : Int32)) p0n <|
  bnd (up2 M6 p0 (z2 + (2 : Int32)).toNatClampNeg p3) fun M8 =>
  ck (z2 + (3 : Int32)) p0n <|
  bnd (up2 M8 p0 (z2 + (3 : Int32)).toNatClampNeg p4) fun M10 =>
  ck (126 : Int32) p0n <|
  ck (126 : Int32) p0n <|
  bnd (up2 M10 p0 (126 : Int32).toNatClampNeg ((M10 p0 (126 : Int32).toNatClampNeg) + (1 : Int32))) fun M13 =>
  some (M13)
def f_X12_loss (y : Nat) (p0 : Int32) (M : Mm) : Option (Int32 × Mm) :=
  Option.bind (f_X12_isLong p0 M) fun r1 =>
  if r1 = 0 then
    bd2 (f_X12_bad y (-2 : Int32) M) fun r5 M7 =>
    some (r5, M7)
  else
    Option.bind (f_X12_all y M) fun r8 =>
    bd2 (f_X12_lossOf y p0 r8 M) fun r11 M13 =>
    some (r11, M13)
def f_X12_lumps_J27 (y : Nat) (M : Mm) : Option (Int32 × Mm) :=
    bd2 (f_X12_bad y (-2 : Int32) M) fun r5 M7 =>
    some (r5, M7)
def f_X12_lumps (y : Nat) (p0 : Int32) (p1 : Int32) (p2 : Int32) (M : Mm) : Option (Int32 × Mm) :=
  Option.bind (f_X12_isLane p0 M) fun r1 =>
  if r1 = 0 then
    f_X12_lumps_J27 y M
  else
    Option.bind (f_X12_isPlace y p1 M) fun r8 =>
    if r8 = 0 then
      f_X12_lumps_J27 y M
    else
      Option.bind (f_X12_in p2.toInt64 (0 : Int64) (999 : Int64) M) fun r12 =>
      if r12 = 0 then
        f_X12_lumps_J27 y M
      else
        ck (((6 : Int32) + ((24 : Int32) * p0)) + p1) 913 <|
        bnd (M (y + 1) (((6 : Int32) + ((24 : Int32) * p0)) + p1).toNatClampNeg) fun z17 =>
        ck (((6 : Int32) + ((24 : Int32) * p0)) + p1) 913 <|
        bnd (up2 M (y + 1) (((6 : Int32) + ((24 : Int32) * p0)) + p1).toNatClampNeg p2) fun M19 =>
        some (z17, M19)
def f_X12_moon_J45 (y : Nat) (M : Mm) : Option (Int32 × Mm) :=
    bd2 (f_X12_bad y (-2 : Int32) M) fun r5 M7 =>
    some (r5, M7)
def f_X12_moon (y : Nat) (p0 : Int32) (p1 : Int32) (p2 : Int32) (p3 : Int32) (M : Mm) : Option (Int32 × Mm) :=
  Option.bind (f_X12_in p0.toInt64 (0 : Int64) (4 : Int64) M) fun r1 =>
  if r1 = 0 then
    f_X12_moon_J45 y M
  else
    Option.bind (f_X12_in p1.toInt64 (0 : Int64) (5 : Int64) M) fun r8 =>
    if r8 = 0 then
      f_X12_moon_J45 y M
    else
      Option.bind (f_X12_isPlace y p2 M) fun r12 =>
      if r12 = 0 then
        f_X12_moon_J45 y M
      else
        Option.bind (f_X12_in p3.toInt64 (0 : Int64) (9 : Int64) M) fun r16 =>
        if r16 = 0 then
          f_X12_moon_J45 y M
        else
          Option.bind (f_X12_moons y M) fun r20 =>
          if r20 = (4 : Int32) then
            bd2 (f_X12_full y M) fun r30 M32 =>
            some (r30, M32)
          else
            Option.bind (f_X12_layMoon (y + 1) 913 p0 p1 p2 p3 M) fun M26 =>
            Option.bind (f_X12_moons y M26) fun r27 =>
            some ((r27 - (1 : Int32)), M26)
def f_X12_moved_J15 (y : Nat) (M : Mm) : Option (Int32 × Mm) :=
    bd2 (f_X12_bad y (-2 : Int32) M) fun r5 M7 =>
    some (r5, M7)
def f_X12_moved_J115 (y : Nat) (x2 : Int32) (x3 : Int32) (x4 : Int32) (x5 : Int32) (x7 : Int32) (s0 : Int32) (M : Mm) (kb49 : Int32 → Int32 → Int32 → Int32 → Int32 → Int32 → Mm → Option (Int32 × Mm)) : Option (Int32 × Mm) :=
    bnd (x7 + (1 : Int32)) fun z35 =>
    kb49 x2 x3 x4 x5 s0 z35 M
def f_X12_moved_J99 (y : Nat) (x2 : Int32) (x3 : Int32) (x4 : Int32) (x6 : Int32) (x7 : Int32) (x8 : Int32) (s0 : Int32) (M : Mm) (kb49 : Int32 → Int32 → Int32 → Int32 → Int32 → Int32 → Mm → Option (Int32 × Mm)) : Option (Int32 × Mm) :=
    if x6 ≤ x8 then
      f_X12_moved_J115 y x2 x3 x4 s0 x7 x6 M kb49
    else
      f_X12_moved_J115 y x2 x3 x4 s0 x7 x8 M kb49
def f_X12_moved_L49 (y : Nat) : Nat → Int32 → Int32 → Int32 → Int32 → Int32 → Int32 → Mm → Option (Int32 × Mm)
  | 0, _, _, _, _, _, _, _ => none
  | n + 1, x2, x3, x4, x5, x6, x7, M =>
      Option.bind (f_X12_places y M) fun r15 =>
      if r15 ≤ x7 then
        ck x3 913 <|
        bnd (up2 M (y + 1) x3.toNatClampNeg x4) fun M20 =>
        some (x5, M20)
      else
        Option.bind (f_X12_places y M) fun r21 =>
        cz r21 <|
        ck x3 913 <|
        bnd (up2 M (y + 1) x3.toNatClampNeg (jr (x4 + x7) r21)) fun M26 =>
        Option.bind (f_X12_all y M26) fun r27 =>
        bd2 (f_X12_lossOf y x2 r27 M26) fun r30 M32 =>
        if x6 ≤ r30 then
          f_X12_moved_J99 y x2 x3 x4 x6 x7 r30 x5 M32 (fun x2 x3 x4 x5 x6 x7 M => f_X12_moved_L49 y n x2 x3 x4 x5 x6 x7 M)
        else
          f_X12_moved_J99 y x2 x3 x4 x6 x7 r30 x7 M32 (fun x2 x3 x4 x5 x6 x7 M => f_X12_moved_L49 y n x2 x3 x4 x5 x6 x7 M)
def f_X12_moved (y : Nat) (p0 : Int32) (p1 : Int32) (M : Mm) : Option (Int32 × Mm) :=
  Option.bind (f_X12_isMoon y p0 M) fun r1 =>
  if r1 = 0 then
    f_X12_moved_J15 y M
  else
    Option.bind (f_X12_isLong p1 M) fun r8 =>
    if r8 = 0 then
      f_X12_moved_J15 y M
    else
      bnd (((127 : Int32) + ((4 : Int32) * p0)) + (2 : Int32)) fun z12 =>
      ck z12 913 <|
      bnd (M (y + 1) z12.toNatClampNeg) fun z14 =>
      f_X12_moved_L49 y 2000 p1 z12 z14 (0 : Int32) (100000000 : Int32) (0 : Int32) M
def f_X12_part (y : Nat) (p0 : Int32) (M : Mm) (N : Ml) : Option (Int64 × Mm) :=
  if p0 = 0 then
    some ((N y 4), M)
  else
    if p0 = (1 : Int32) then
      some ((N y 5), M)
    else
      bd2 (f_X12_bad y (-100000 : Int32) M) fun r3 M5 =>
      some (r3.toInt64, M5)
def f_X12_pushes_J270 (y : Nat) (x3 : Int32) (s0 : Int32) (s1 : Int32) (M : Mm) (kb216 : Int32 → Int32 → Mm → Option (Int32 × Mm)) : Option (Int32 × Mm) :=
    bnd (s0 + s1) fun z17 =>
    bnd (x3 + (1 : Int32)) fun z18 =>
    kb216 z17 z18 M
def f_X12_pushes_J251 (y : Nat) (x2 : Int32) (x3 : Int32) (x4 : Int32) (M : Mm) (kb216 : Int32 → Int32 → Mm → Option (Int32 × Mm)) : Option (Int32 × Mm) :=
    if x4 ≤ 0 then
      f_X12_pushes_J270 y x3 x2 (0 : Int32) M kb216
    else
      ck x3 1560 <|
      f_X12_pushes_J270 y x3 x2 (x4 * (M (y + 8) x3.toNatClampNeg)) M kb216
def f_X12_pushes_L216 (y : Nat) : Nat → Int32 → Int32 → Mm → Option (Int32 × Mm)
  | 0, _, _, _ => none
  | n + 1, x2, x3, M =>
      if (120 : Int32) ≤ x3 then
        some (x2, M)
      else
        ck ((6 : Int32) + x3) 913 <|
        bnd (M (y + 1) ((6 : Int32) + x3).toNatClampNeg) fun z14 =>
        if z14 ≤ 0 then
          f_X12_pushes_J251 y x2 x3 z14 M (fun x2 x3 M => f_X12_pushes_L216 y n x2 x3 M)
        else
          ck x3 1560 <|
          if (M (y + 8) x3.toNatClampNeg) < (100000000 : Int32) then
            f_X12_pushes_J251 y x2 x3 z14 M (fun x2 x3 M => f_X12_pushes_L216 y n x2 x3 M)
          else
            some ((-1 : Int32), M)
def f_X12_pushes_J187 (y : Nat) (x2 : Int32) (x3 : Int32) (x4 : Int32) (M : Mm) (kb57 : Int32 → Mm → Option (Int32 × Mm)) (kb63 : Int32 → Int32 → Mm → Option (Int32 × Mm)) : Option (Int32 × Mm) :=
    ck (((120 : Int32) * x2) + x3) 1560 <|
    bnd (up2 M (y + 8) (((120 : Int32) * x2) + x3).toNatClampNeg x4) fun M26 =>
    bnd (x3 + (1 : Int32)) fun z27 =>
    kb63 x2 z27 M26
def f_X12_pushes_J179 (y : Nat) (x2 : Int32) (x3 : Int32) (x5 : Int32) (s0 : Int32) (M : Mm) (kb57 : Int32 → Mm → Option (Int32 × Mm)) (kb63 : Int32 → Int32 → Mm → Option (Int32 × Mm)) (kb76 : Int32 → Int32 → Int32 → Int32 → Mm → Option (Int32 × Mm)) : Option (Int32 × Mm) :=
    bnd (x5 + (1 : Int32)) fun z43 =>
    kb76 x2 x3 s0 z43 M
def f_X12_pushes_J163 (y : Nat) (x2 : Int32) (x3 : Int32) (x4 : Int32) (x5 : Int32) (s0 : Int32) (M : Mm) (kb57 : Int32 → Mm → Option (Int32 × Mm)) (kb63 : Int32 → Int32 → Mm → Option (Int32 × Mm)) (kb76 : Int32 → Int32 → Int32 → Int32 → Mm → Option (Int32 × Mm)) : Option (Int32 × Mm) :=
    if x4 ≤ s0 then
      f_X12_pushes_J179 y x2 x3 x5 x4 M kb57 kb63 kb76
    else
      f_X12_pushes_J179 y x2 x3 x5 s0 M kb57 kb63 kb76
def f_X12_pushes_J162 (y : Nat) (x2 : Int32) (x3 : Int32) (x4 : Int32) (x5 : Int32) (s0 : Int32) (s1 : Int32) (M : Mm) (kb57 : Int32 → Mm → Option (Int32 × Mm)) (kb63 : Int32 → Int32 → Mm → Option (Int32 × Mm)) (kb76 : Int32 → Int32 → Int32 → Int32 → Mm → Option (Int32 × Mm)) : Option (Int32 × Mm) :=
    f_X12_pushes_J163 y x2 x3 x4 x5 (s0 + s1) M kb57 kb63 kb76
def f_X12_pushes_J125 (y : Nat) (x2 : Int32) (x3 : Int32) (x4 : Int32) (x5 : Int32) (s0 : Int32) (M : Mm) (kb57 : Int32 → Mm → Option (Int32 × Mm)) (kb63 : Int32 → Int32 → Mm → Option (Int32 × Mm)) (kb76 : Int32 → Int32 → Int32 → Int32 → Mm → Option (Int32 × Mm)) : Option (Int32 × Mm) :=
    if s0 = (-1 : Int32) then
      f_X12_pushes_J163 y x2 x3 x4 x5 (100000000 : Int32) M kb57 kb63 kb76
    else
      ck (((120 : Int32) * (x2 + (1 : Int32))) + s0) 1560 <|
      if x5 = 0 then
        f_X12_pushes_J162 y x2 x3 x4 x5 (M (y + 8) (((120 : Int32) * (x2 + (1 : Int32))) + s0).toNatClampNeg) (0 : Int32) M kb57 kb63 kb76
      else
        f_X12_pushes_J162 y x2 x3 x4 x5 (M (y + 8) (((120 : Int32) * (x2 + (1 : Int32))) + s0).toNatClampNeg) (1 : Int32) M kb57 kb63 kb76
def f_X12_pushes_L76 (y : Nat) (kb57 : Int32 → Mm → Option (Int32 × Mm)) (kb63 : Int32 → Int32 → Mm → Option (Int32 × Mm)) : Nat → Int32 → Int32 → Int32 → Int32 → Mm → Option (Int32 × Mm)
  | 0, _, _, _, _, _ => none
  | n + 1, x2, x3, x4, x5, M =>
      if (2 : Int32) ≤ x5 then
        f_X12_pushes_J187 y x2 x3 x4 M kb57 kb63
      else
        cz (24 : Int32) <|
        Option.bind (f_X12_places y M) fun r29 =>
        if r29 ≤ (jr x3 (24 : Int32)) then
          f_X12_pushes_J187 y x2 x3 x4 M kb57 kb63
        else
          cz (24 : Int32) <|
          bnd ((x3 / (24 : Int32)) + x5) fun z34 =>
          Option.bind (f_X12_isLane z34 M) fun r35 =>
          if r35 = 0 then
            f_X12_pushes_J125 y x2 x3 x4 x5 (-1 : Int32) M kb57 kb63 (fun x2 x3 x4 x5 M => f_X12_pushes_L76 y kb57 kb63 n x2 x3 x4 x5 M)
          else
            cz (24 : Int32) <|
            bd2 (f_X12_behind y x2 z34 (jr x3 (24 : Int32)) M) fun r45 M47 =>
            f_X12_pushes_J125 y x2 x3 x4 x5 r45 M47 kb57 kb63 (fun x2 x3 x4 x5 M => f_X12_pushes_L76 y kb57 kb63 n x2 x3 x4 x5 M)
def f_X12_pushes_L63 (y : Nat) (kb57 : Int32 → Mm → Option (Int32 × Mm)) : Nat → Int32 → Int32 → Mm → Option (Int32 × Mm)
  | 0, _, _, _ => none
  | n + 1, x2, x3, M =>
      if (120 : Int32) ≤ x3 then
        bnd (x2 + (-1 : Int32)) fun z23 =>
        kb57 z23 M
      else
        f_X12_pushes_L76 y kb57 (fun x2 x3 M => f_X12_pushes_L63 y kb57 n x2 x3 M) 2000 x2 x3 (100000000 : Int32) (-1 : Int32) M
def f_X12_pushes_L57 (y : Nat) : Nat → Int32 → Mm → Option (Int32 × Mm)
  | 0, _, _ => none
  | n + 1, x2, M =>
      if x2 < 0 then
        f_X12_pushes_L216 y 2000 (0 : Int32) (0 : Int32) M
      else
        f_X12_pushes_L63 y (fun x2 M => f_X12_pushes_L57 y n x2 M) 2000 x2 (0 : Int32) M
def f_X12_pushes_L29 (y : Nat) : Nat → Int32 → Int32 → Mm → Option (Int32 × Mm)
  | 0, _, _, _ => none
  | n + 1, x1, x2, M =>
      if (120 : Int32) ≤ x2 then
        bnd (x1 - (1 : Int32)) fun z10 =>
        f_X12_pushes_L57 y 2000 z10 M
      else
        ck (((120 : Int32) * x1) + x2) 1560 <|
        bnd (up2 M (y + 8) (((120 : Int32) * x1) + x2).toNatClampNeg (0 : Int32)) fun M49 =>
        bnd (x2 + (1 : Int32)) fun z50 =>
        f_X12_pushes_L29 y n x1 z50 M49
def f_X12_pushes (y : Nat) (p0 : Int32) (M : Mm) : Option (Int32 × Mm) :=
  Option.bind (f_X12_in p0.toInt64 (0 : Int64) (12 : Int64) M) fun r1 =>
  if r1 = 0 then
    bd2 (f_X12_bad y (-2 : Int32) M) fun r51 M53 =>
    some (r51, M53)
  else
    Option.bind (f_X12_all y M) fun r5 =>
    bnd (up2 M y 10 r5) fun M8 =>
    f_X12_pushes_L29 y 2000 p0 (0 : Int32) M8
def f_X12_takes (y : Nat) (p0 : Int32) (p1 : Int32) (p2 : Int32) (M : Mm) : Option (Int32 × Mm) :=
  if (M y 21) = (2 : Int32) then
    Option.bind (f_X12_in ((M y 22).toInt64) p1.toInt64 p2.toInt64 M) fun r2 =>
    if r2 = 0 then
      some ((0 : Int32), M)
    else
      ck p0 4 <|
      bnd (up2 M (y + 13) p0.toNatClampNeg (M y 22)) fun M7 =>
      Option.bind (f_X12_goOn y M7) fun M10 =>
      some ((1 : Int32), M10)
  else
    some ((0 : Int32), M)
def f_X12_readsFirst (y : Nat) (M : Mm) : Option (Int32 × Mm) :=
  Option.bind (f_X12_isWord y (114 : Int32) (105 : Int32) (110 : Int32) (103 : Int32) (0 : Int32) M) fun r1 =>
  if r1 = 0 then
    some ((0 : Int32), M)
  else
    Option.bind (f_X12_goOn y M) fun M7 =>
    bd2 (f_X12_takes y (0 : Int32) (4 : Int32) (24 : Int32) M7) fun r8 M10 =>
    ck (0 : Int32) 4 <|
    Option.bind (f_X12_begin (y + 12) 151 (M10 (y + 13) (0 : Int32).toNatClampNeg) M10) fun M14 =>
    if r8 = 0 then
      some ((0 : Int32), M14)
    else
      if (M14 y 21) = (3 : Int32) then
        some ((1 : Int32), M14)
      else
        some ((0 : Int32), M14)
def f_X12_readsItem_J137 (y : Nat) (s0 : Int32) (M : Mm) : Option (Int32 × Mm) :=
    if s0 = 0 then
      cb s0 <|
      some (s0, M)
    else
      ck (0 : Int32) 4 <|
      ck (1 : Int32) 4 <|
      ck (2 : Int32) 4 <|
      ck (((6 : Int32) + ((24 : Int32) * (M (y + 13) (0 : Int32).toNatClampNeg))) + (M (y + 13) (1 : Int32).toNatClampNeg)) 151 <|
      bnd (up2 M (y + 12) (((6 : Int32) + ((24 : Int32) * (M (y + 13) (0 : Int32).toNatClampNeg))) + (M (y + 13) (1 : Int32).toNatClampNeg)).toNatClampNeg (M (y + 13) (2 : Int32).toNatClampNeg)) fun M57 =>
      cb s0 <|
      some (s0, M57)
def f_X12_readsItem_J136 (y : Nat) (M : Mm) : Option (Int32 × Mm) :=
    f_X12_readsItem_J137 y (0 : Int32) M
def f_X12_readsItem_J73 (y : Nat) (x1 : Int32) (s1 : Int32) (s2 : Int32) (M : Mm) : Option (Int32 × Mm) :=
    ck s1 151 <|
    bnd (up2 M (y + 12) s1.toNatClampNeg s2) fun M80 =>
    cb x1 <|
    some (x1, M80)
def f_X12_readsItem_J46 (y : Nat) (s0 : Int32) (M : Mm) : Option (Int32 × Mm) :=
    ck (0 : Int32) 4 <|
    if s0 = 0 then
      f_X12_readsItem_J73 y s0 ((1 : Int32) + (M (y + 13) (0 : Int32).toNatClampNeg)) (0 : Int32) M
    else
      ck (1 : Int32) 4 <|
      f_X12_readsItem_J73 y s0 ((1 : Int32) + (M (y + 13) (0 : Int32).toNatClampNeg)) (M (y + 13) (1 : Int32).toNatClampNeg) M
def f_X12_readsItem_J45 (y : Nat) (M : Mm) : Option (Int32 × Mm) :=
    f_X12_readsItem_J46 y (0 : Int32) M
def f_X12_readsItem (y : Nat) (M : Mm) : Option (Int32 × Mm) :=
  Option.bind (f_X12_isWord y (115 : Int32) (116 : Int32) (101 : Int32) (112 : Int32) (0 : Int32) M) fun r1 =>
  if r1 = 0 then
    Option.bind (f_X12_isWord y (108 : Int32) (117 : Int32) (109 : Int32) (112 : Int32) (115 : Int32) M) fun r5 =>
    if r5 = 0 then
      Option.bind (f_X12_isWord y (109 : Int32) (111 : Int32) (111 : Int32) (110 : Int32) (0 : Int32) M) fun r9 =>
      if r9 = 0 then
        some ((0 : Int32), M)
      else
        ck (126 : Int32) 151 <|
        if (M (y + 12) (126 : Int32).toNatClampNeg) = (4 : Int32) then
          some ((0 : Int32), M)
        else
          Option.bind (f_X12_goOn y M) fun M17 =>
          bd2 (f_X12_takes y (0 : Int32) (0 : Int32) (4 : Int32) M17) fun r18 M20 =>
          if r18 = 0 then
            some ((0 : Int32), M20)
          else
            bd2 (f_X12_takes y (1 : Int32) (0 : Int32) (5 : Int32) M20) fun r22 M24 =>
            if r22 = 0 then
              some ((0 : Int32), M24)
            else
              Option.bind (f_X12_lastPlace y M24) fun r26 =>
              bd2 (f_X12_takes y (2 : Int32) (0 : Int32) r26 M24) fun r29 M31 =>
              if r29 = 0 then
                some ((0 : Int32), M31)
              else
                bd2 (f_X12_takes y (3 : Int32) (0 : Int32) (9 : Int32) M31) fun r33 M35 =>
                if r33 = 0 then
                  some ((0 : Int32), M35)
                else
                  ck (0 : Int32) 4 <|
                  ck (1 : Int32) 4 <|
                  ck (2 : Int32) 4 <|
                  ck (3 : Int32) 4 <|
                  Option.bind (f_X12_layMoon (y + 12) 151 (M35 (y + 13) (0 : Int32).toNatClampNeg) (M35 (y + 13) (1 : Int32).toNatClampNeg) (M35 (y + 13) (2 : Int32).toNatClampNeg) (M35 (y + 13) (3 : Int32).toNatClampNeg) M35) fun M43 =>
                  some ((1 : Int32), M43)
    else
      Option.bind (f_X12_goOn y M) fun M46 =>
      bd2 (f_X12_takes y (0 : Int32) (0 : Int32) (4 : Int32) M46) fun r47 M49 =>
      if r47 = 0 then
        f_X12_readsItem_J136 y M49
      else
        Option.bind (f_X12_lastPlace y M49) fun r59 =>
        bd2 (f_X12_takes y (1 : Int32) (0 : Int32) r59 M49) fun r62 M64 =>
        if r62 = 0 then
          f_X12_readsItem_J136 y M64
        else
          bd2 (f_X12_takes y (2 : Int32) (0 : Int32) (999 : Int32) M64) fun r66 M68 =>
          if r66 = 0 then
            f_X12_readsItem_J136 y M68
          else
            f_X12_readsItem_J137 y (1 : Int32) M68
  else
    Option.bind (f_X12_goOn y M) fun M72 =>
    bd2 (f_X12_takes y (0 : Int32) (0 : Int32) (4 : Int32) M72) fun r73 M75 =>
    if r73 = 0 then
      f_X12_readsItem_J45 y M75
    else
      bd2 (f_X12_takes y (1 : Int32) (0 : Int32) (9 : Int32) M75) fun r83 M85 =>
      if r83 = 0 then
        f_X12_readsItem_J45 y M85
      else
        f_X12_readsItem_J46 y (1 : Int32) M85
def f_X12_read_L75 (y : Nat) : Nat → Int32 → Int32 → Mm → Option (Int32 × Mm)
  | 0, _, _, _ => none
  | n + 1, x1, x2, M =>
      if (151 : Int32) ≤ x2 then
        some (x1, M)
      else
        ck x2 151 <|
        ck x2 913 <|
        bnd (up2 M (y + 1) x2.toNatClampNeg (M (y + 12) x2.toNatClampNeg)) fun M17 =>
        bnd (x2 + (1 : Int32)) fun z18 =>
        f_X12_read_L75 y n x1 z18 M17
def f_X12_read_L33 (y : Nat) : Nat → Int32 → Mm → Option (Int32 × Mm)
  | 0, _, _ => none
  | n + 1, x1, M =>
      if (M y 21) = 0 then
        f_X12_read_L75 y 2000 x1 (0 : Int32) M
      else
        bd2 (f_X12_readsItem y M) fun r19 M21 =>
        if r19 = 0 then
          some (((-10 : Int32) - (M21 y 19)), M21)
        else
          if (M21 y 21) = (3 : Int32) then
            Option.bind (f_X12_goOn y M21) fun M26 =>
            bnd (x1 + (1 : Int32)) fun z27 =>
            f_X12_read_L33 y n z27 M26
          else
            some (((-10 : Int32) - (M21 y 19)), M21)
def f_X12_read (y : Nat) (M : Mm) : Option (Int32 × Mm) :=
  ck (0 : Int32) 4 <|
  bnd (up2 M (y + 13) (0 : Int32).toNatClampNeg (4 : Int32)) fun M2 =>
  Option.bind (f_X12_look y (0 : Int32) M2) fun M5 =>
  bd2 (f_X12_readsFirst y M5) fun r6 M8 =>
  if r6 = 0 then
    some (((-10 : Int32) - (M8 y 19)), M8)
  else
    Option.bind (f_X12_goOn y M8) fun M12 =>
    f_X12_read_L33 y 2000 (1 : Int32) M12
def f_X12_ring (y : Nat) (p0 : Int32) (M : Mm) : Option (Int32 × Mm) :=
  Option.bind (f_X12_in p0.toInt64 (4 : Int64) (24 : Int64) M) fun r1 =>
  if r1 = 0 then
    bd2 (f_X12_bad y (-2 : Int32) M) fun r11 M13 =>
    some (r11, M13)
  else
    Option.bind (f_X12_places y M) fun r5 =>
    Option.bind (f_X12_begin (y + 1) 913 p0 M) fun M10 =>
    some (r5, M10)
def f_X12_road_J25 (y : Nat) (M : Mm) : Option (Int32 × Mm) :=
    bd2 (f_X12_bad y (-10 : Int32) M) fun r5 M7 =>
    some (r5, M7)
def f_X12_road_J154 (y : Nat) (x4 : Int32) (M : Mm) : Option (Int32 × Mm) :=
    some (x4, M)
def f_X12_road_J144 (y : Nat) (x3 : Int32) (x4 : Int32) (x5 : Int32) (M : Mm) : Option (Int32 × Mm) :=
    if x3 = 0 then
      f_X12_road_J154 y x4 M
    else
      if x4 = (-1 : Int32) then
        f_X12_road_J154 y x4 M
      else
        some (x5, M)
def f_X12_road_J136 (y : Nat) (x1 : Int32) (x2 : Int32) (x3 : Int32) (x4 : Int32) (x5 : Int32) (x7 : Int32) (s0 : Int32) (M : Mm) (kb52 : Int32 → Int32 → Int32 → Int32 → Int32 → Int32 → Int32 → Mm → Option (Int32 × Mm)) : Option (Int32 × Mm) :=
    bnd (x7 + (1 : Int32)) fun z37 =>
    kb52 x1 x2 x3 x4 x5 s0 z37 M
def f_X12_road_J135 (y : Nat) (x1 : Int32) (x2 : Int32) (x3 : Int32) (x4 : Int32) (x5 : Int32) (x7 : Int32) (M : Mm) (kb52 : Int32 → Int32 → Int32 → Int32 → Int32 → Int32 → Int32 → Mm → Option (Int32 × Mm)) : Option (Int32 × Mm) :=
    f_X12_road_J136 y x1 x2 x3 x4 x5 x7 (0 : Int32) M kb52
def f_X12_road_J117 (y : Nat) (x1 : Int32) (x2 : Int32) (x3 : Int32) (x4 : Int32) (x7 : Int32) (x9 : Int32) (s0 : Int32) (s1 : Int32) (M : Mm) (kb52 : Int32 → Int32 → Int32 → Int32 → Int32 → Int32 → Int32 → Mm → Option (Int32 × Mm)) : Option (Int32 × Mm) :=
    bnd (s0 + s1) fun z35 =>
    if x4 = (-1 : Int32) then
      f_X12_road_J135 y x1 x2 x3 x4 z35 x7 M kb52
    else
      if x9 = 0 then
        f_X12_road_J136 y x1 x2 x3 x4 z35 x7 (1 : Int32) M kb52
      else
        f_X12_road_J135 y x1 x2 x3 x4 z35 x7 M kb52
def f_X12_road_J103 (y : Nat) (x1 : Int32) (x2 : Int32) (x3 : Int32) (x5 : Int32) (x7 : Int32) (x9 : Int32) (s0 : Int32) (M : Mm) (kb52 : Int32 → Int32 → Int32 → Int32 → Int32 → Int32 → Int32 → Mm → Option (Int32 × Mm)) : Option (Int32 × Mm) :=
    if x9 = 0 then
      f_X12_road_J117 y x1 x2 x3 s0 x7 x9 x5 (0 : Int32) M kb52
    else
      f_X12_road_J117 y x1 x2 x3 s0 x7 x9 x5 (1 : Int32) M kb52
def f_X12_road_J101 (y : Nat) (x1 : Int32) (x2 : Int32) (x3 : Int32) (x4 : Int32) (x5 : Int32) (x7 : Int32) (x9 : Int32) (M : Mm) (kb52 : Int32 → Int32 → Int32 → Int32 → Int32 → Int32 → Int32 → Mm → Option (Int32 × Mm)) : Option (Int32 × Mm) :=
    f_X12_road_J103 y x1 x2 x3 x5 x7 x9 x4 M kb52
def f_X12_road_J76 (y : Nat) (x1 : Int32) (x2 : Int32) (x3 : Int32) (x4 : Int32) (x5 : Int32) (x7 : Int32) (s0 : Int32) (M : Mm) (kb52 : Int32 → Int32 → Int32 → Int32 → Int32 → Int32 → Int32 → Mm → Option (Int32 × Mm)) : Option (Int32 × Mm) :=
    Option.bind (f_X12_isRoad y x1 M) fun r30 =>
    if r30 = 0 then
      f_X12_road_J101 y x1 x2 x3 x4 x5 x7 r30 M kb52
    else
      if x4 = (-1 : Int32) then
        f_X12_road_J103 y x1 x2 x3 x5 x7 r30 x7 M kb52
      else
        f_X12_road_J101 y x1 x2 x3 x4 x5 x7 r30 M kb52
def f_X12_road_L52 (y : Nat) : Nat → Int32 → Int32 → Int32 → Int32 → Int32 → Int32 → Int32 → Mm → Option (Int32 × Mm)
  | 0, _, _, _, _, _, _, _, _ => none
  | n + 1, x1, x2, x3, x4, x5, x6, x7, M =>
      if x2 < x7 then
        f_X12_road_J144 y x3 x4 x5 M
      else
        if x6 = 0 then
          if x7 = 0 then
            f_X12_road_J76 y x1 x2 x3 x4 x5 x7 (0 : Int32) M (fun x1 x2 x3 x4 x5 x6 x7 M => f_X12_road_L52 y n x1 x2 x3 x4 x5 x6 x7 M)
          else
            bd2 (f_X12_goRound y M) fun r27 M29 =>
            f_X12_road_J76 y x1 x2 x3 x4 x5 x7 r27 M29 (fun x1 x2 x3 x4 x5 x6 x7 M => f_X12_road_L52 y n x1 x2 x3 x4 x5 x6 x7 M)
        else
          f_X12_road_J144 y x3 x4 x5 M
def f_X12_road (y : Nat) (p0 : Int32) (p1 : Int32) (p2 : Int32) (M : Mm) : Option (Int32 × Mm) :=
  Option.bind (f_X12_isPlace y p0 M) fun r1 =>
  if r1 = 0 then
    f_X12_road_J25 y M
  else
    Option.bind (f_X12_isLong p1 M) fun r8 =>
    if r8 = 0 then
      f_X12_road_J25 y M
    else
      Option.bind (f_X12_in p2.toInt64 (0 : Int64) (1 : Int64) M) fun r12 =>
      if r12 = 0 then
        f_X12_road_J25 y M
      else
        Option.bind (f_X12_all y M) fun r16 =>
        Option.bind (f_X12_takeNow y r16 M) fun M21 =>
        f_X12_road_L52 y 2000 p0 p1 p2 (-1 : Int32) (0 : Int32) (0 : Int32) (0 : Int32) M21
def f_X12_round_L244 (y : Nat) : Nat → Int32 → Int32 → Mm → Option (Int32 × Mm)
  | 0, _, _, _ => none
  | n + 1, x2, x3, M =>
      Option.bind (f_X12_moons y M) fun r31 =>
      if r31 ≤ x3 then
        ck (148 : Int32) 913 <|
        ck (148 : Int32) 913 <|
        bnd (up2 M (y + 1) (148 : Int32).toNatClampNeg ((M (y + 1) (148 : Int32).toNatClampNeg) + (1 : Int32))) fun M37 =>
        ck (149 : Int32) 913 <|
        ck (149 : Int32) 913 <|
        bnd (up2 M37 (y + 1) (149 : Int32).toNatClampNeg ((M37 (y + 1) (149 : Int32).toNatClampNeg) + x2)) fun M40 =>
        some (x2, M40)
      else
        ck x3 4 <|
        ck (((127 : Int32) + ((4 : Int32) * x3)) + (2 : Int32)) 913 <|
        bnd (up2 M (y + 1) (((127 : Int32) + ((4 : Int32) * x3)) + (2 : Int32)).toNatClampNeg (M (y + 7) x3.toNatClampNeg)) fun M43 =>
        bnd (x3 + (1 : Int32)) fun z44 =>
        f_X12_round_L244 y n x2 z44 M43
def f_X12_round_L215 (y : Nat) : Nat → Int32 → Int32 → Mm → Option (Int32 × Mm)
  | 0, _, _, _ => none
  | n + 1, x2, x3, M =>
      if (120 : Int32) ≤ x3 then
        f_X12_round_L244 y 2000 x2 (0 : Int32) M
      else
        ck x3 120 <|
        ck ((6 : Int32) + x3) 913 <|
        bnd (up2 M (y + 1) ((6 : Int32) + x3).toNatClampNeg (M (y + 5) x3.toNatClampNeg)) fun M47 =>
        bnd (x3 + (1 : Int32)) fun z48 =>
        f_X12_round_L215 y n x2 z48 M47
def f_X12_round_L106 (y : Nat) : Nat → Int32 → Int32 → Mm → Option (Int32 × Mm)
  | 0, _, _, _ => none
  | n + 1, x1, x2, M =>
      if (4 : Int32) ≤ x2 then
        ck (148 : Int32) 913 <|
        ck (x1 + (124 : Int32)) 913 <|
        bnd (up2 M (y + 1) (x1 + (124 : Int32)).toNatClampNeg (M (y + 1) (148 : Int32).toNatClampNeg)) fun M9 =>
        ck (149 : Int32) 913 <|
        ck (x1 + (125 : Int32)) 913 <|
        bnd (up2 M9 (y + 1) (x1 + (125 : Int32)).toNatClampNeg (M9 (y + 1) (149 : Int32).toNatClampNeg)) fun M12 =>
        Option.bind (f_X12_moons y M12) fun r13 =>
        ck (x1 + (126 : Int32)) 913 <|
        bnd (up2 M12 (y + 1) (x1 + (126 : Int32)).toNatClampNeg r13) fun M17 =>
        ck (150 : Int32) 913 <|
        ck (150 : Int32) 913 <|
        bnd (up2 M17 (y + 1) (150 : Int32).toNatClampNeg ((M17 (y + 1) (150 : Int32).toNatClampNeg) + (1 : Int32))) fun M20 =>
        Option.bind (f_X12_all y M20) fun r21 =>
        Option.bind (f_X12_takeNow y r21 M20) fun M26 =>
        bd2 (f_X12_goRound y M26) fun r27 M29 =>
        f_X12_round_L215 y 2000 r27 (0 : Int32) M29
      else
        ck (((127 : Int32) + ((4 : Int32) * x2)) + (2 : Int32)) 913 <|
        ck ((x1 + (120 : Int32)) + x2) 913 <|
        bnd (up2 M (y + 1) ((x1 + (120 : Int32)) + x2).toNatClampNeg (M (y + 1) (((127 : Int32) + ((4 : Int32) * x2)) + (2 : Int32)).toNatClampNeg)) fun M51 =>
        bnd (x2 + (1 : Int32)) fun z52 =>
        f_X12_round_L106 y n x1 z52 M51
def f_X12_round_L75 (y : Nat) : Nat → Int32 → Int32 → Mm → Option (Int32 × Mm)
  | 0, _, _, _ => none
  | n + 1, x1, x2, M =>
      if (120 : Int32) ≤ x2 then
        f_X12_round_L106 y 2000 x1 (0 : Int32) M
      else
        ck ((6 : Int32) + x2) 913 <|
        ck (x1 + x2) 913 <|
        bnd (up2 M (y + 1) (x1 + x2).toNatClampNeg (M (y + 1) ((6 : Int32) + x2).toNatClampNeg)) fun M55 =>
        bnd (x2 + (1 : Int32)) fun z56 =>
        f_X12_round_L75 y n x1 z56 M55
def f_X12_round_J57 (y : Nat) (M : Mm) : Option (Int32 × Mm) :=
    ck (150 : Int32) 913 <|
    bnd ((151 : Int32) + ((127 : Int32) * (M (y + 1) (150 : Int32).toNatClampNeg))) fun z4 =>
    f_X12_round_L75 y 2000 z4 (0 : Int32) M
def f_X12_round_L15 (y : Nat) : Nat → Int32 → Mm → Option (Int32 × Mm)
  | 0, _, _ => none
  | n + 1, x1, M =>
      if (635 : Int32) ≤ x1 then
        ck (150 : Int32) 913 <|
        bnd (up2 M (y + 1) (150 : Int32).toNatClampNeg (5 : Int32)) fun M59 =>
        f_X12_round_J57 y M59
      else
        ck ((278 : Int32) + x1) 913 <|
        ck ((151 : Int32) + x1) 913 <|
        bnd (up2 M (y + 1) ((151 : Int32) + x1).toNatClampNeg (M (y + 1) ((278 : Int32) + x1).toNatClampNeg)) fun M62 =>
        bnd (x1 + (1 : Int32)) fun z63 =>
        f_X12_round_L15 y n z63 M62
def f_X12_round (y : Nat) (M : Mm) : Option (Int32 × Mm) :=
  ck (150 : Int32) 913 <|
  if (M (y + 1) (150 : Int32).toNatClampNeg) = (6 : Int32) then
    f_X12_round_L15 y 2000 (0 : Int32) M
  else
    f_X12_round_J57 y M
def f_X12_status (y : Nat) (p0 : Int32) (M : Mm) : Option (Int32 × Mm) :=
  Option.bind (f_X12_in p0.toInt64 (0 : Int64) (2 : Int64) M) fun r1 =>
  if r1 = 0 then
    bd2 (f_X12_bad y (-1 : Int32) M) fun r5 M7 =>
    some (r5, M7)
  else
    ck p0 3 <|
    some ((M (y + 4) p0.toNatClampNeg), M)
def f_X12_step_J19 (y : Nat) (M : Mm) : Option (Int32 × Mm) :=
    bd2 (f_X12_bad y (-2 : Int32) M) fun r5 M7 =>
    some (r5, M7)
def f_X12_step (y : Nat) (p0 : Int32) (p1 : Int32) (M : Mm) : Option (Int32 × Mm) :=
  Option.bind (f_X12_isLane p0 M) fun r1 =>
  if r1 = 0 then
    f_X12_step_J19 y M
  else
    Option.bind (f_X12_in p1.toInt64 (0 : Int64) (9 : Int64) M) fun r8 =>
    if r8 = 0 then
      f_X12_step_J19 y M
    else
      ck ((1 : Int32) + p0) 913 <|
      bnd (M (y + 1) ((1 : Int32) + p0).toNatClampNeg) fun z13 =>
      ck ((1 : Int32) + p0) 913 <|
      bnd (up2 M (y + 1) ((1 : Int32) + p0).toNatClampNeg p1) fun M15 =>
      some (z13, M15)
def f_X12_taken_J12 (y : Nat) (M : Mm) : Option (Int32 × Mm) :=
    bd2 (f_X12_bad y (-10 : Int32) M) fun r5 M7 =>
    some (r5, M7)
def f_X12_taken_J173 (y : Nat) (x1 : Int32) (x2 : Int32) (x4 : Int32) (x5 : Int32) (x6 : Int32) (M : Mm) (kb77 : Int32 → Int32 → Int32 → Int32 → Int32 → Mm → Option (Int32 × Mm)) : Option (Int32 × Mm) :=
    bnd (x6 + (1 : Int32)) fun z21 =>
    kb77 x1 x2 x4 x5 z21 M
def f_X12_taken_J168 (y : Nat) (x1 : Int32) (x2 : Int32) (x4 : Int32) (x6 : Int32) (s0 : Int32) (M : Mm) (kb77 : Int32 → Int32 → Int32 → Int32 → Int32 → Mm → Option (Int32 × Mm)) : Option (Int32 × Mm) :=
    bnd (x4 + (1 : Int32)) fun z36 =>
    f_X12_taken_J173 y x1 x2 z36 s0 x6 M kb77
def f_X12_taken_J135 (y : Nat) (x1 : Int32) (x2 : Int32) (x4 : Int32) (x5 : Int32) (x6 : Int32) (x7 : Int32) (s1 : Int32) (M : Mm) (kb77 : Int32 → Int32 → Int32 → Int32 → Int32 → Mm → Option (Int32 × Mm)) : Option (Int32 × Mm) :=
    Option.bind (f_X12_isTold y s1 x7 M) fun r31 =>
    if r31 = 0 then
      f_X12_taken_J173 y x1 x2 x4 x5 x6 M kb77
    else
      if x4 = x2 then
        cz (24 : Int32) <|
        cz (24 : Int32) <|
        f_X12_taken_J168 y x1 x2 x4 x6 (((100 : Int32) * (x6 / (24 : Int32))) + (jr x6 (24 : Int32))) M kb77
      else
        f_X12_taken_J168 y x1 x2 x4 x6 x5 M kb77
def f_X12_taken_L77 (y : Nat) : Nat → Int32 → Int32 → Int32 → Int32 → Int32 → Mm → Option (Int32 × Mm)
  | 0, _, _, _, _, _, _ => none
  | n + 1, x1, x2, x4, x5, x6, M =>
      if (120 : Int32) ≤ x6 then
        if x2 = (-1 : Int32) then
          some (x4, M)
        else
          some (x5, M)
      else
        ck ((6 : Int32) + x6) 913 <|
        bnd (M (y + 1) ((6 : Int32) + x6).toNatClampNeg) fun z19 =>
        if z19 ≤ 0 then
          f_X12_taken_J173 y x1 x2 x4 x5 x6 M (fun x1 x2 x4 x5 x6 M => f_X12_taken_L77 y n x1 x2 x4 x5 x6 M)
        else
          cz (24 : Int32) <|
          cz (24 : Int32) <|
          Option.bind (f_X12_goOneOn y (x6 / (24 : Int32)) (jr x6 (24 : Int32)) x1 M) fun M26 =>
          Option.bind (f_X12_isLane (M26 y 11) M26) fun r27 =>
          if r27 = 0 then
            f_X12_taken_J135 y x1 x2 x4 x5 x6 z19 (-1 : Int32) M26 (fun x1 x2 x4 x5 x6 M => f_X12_taken_L77 y n x1 x2 x4 x5 x6 M)
          else
            f_X12_taken_J135 y x1 x2 x4 x5 x6 z19 (M26 y 11) M26 (fun x1 x2 x4 x5 x6 M => f_X12_taken_L77 y n x1 x2 x4 x5 x6 M)
def f_X12_taken_L32 (y : Nat) : Nat → Int32 → Int32 → Int32 → Mm → Option (Int32 × Mm)
  | 0, _, _, _, _ => none
  | n + 1, x1, x2, x4, M =>
      if (5 : Int32) ≤ x4 then
        f_X12_taken_L77 y 2000 x1 x2 (0 : Int32) (-5 : Int32) (0 : Int32) M
      else
        Option.bind (f_X12_places y M) fun r39 =>
        Option.bind (f_X12_sumOf (y + 5) 120 ((24 : Int32) * x4) r39 M) fun r42 =>
        ck x4 5 <|
        bnd (up2 M (y + 9) x4.toNatClampNeg r42) fun M46 =>
        bnd (x4 + (1 : Int32)) fun z47 =>
        f_X12_taken_L32 y n x1 x2 z47 M46
def f_X12_taken (y : Nat) (p0 : Int32) (p1 : Int32) (M : Mm) : Option (Int32 × Mm) :=
  Option.bind (f_X12_isLong p0 M) fun r1 =>
  if r1 = 0 then
    f_X12_taken_J12 y M
  else
    if (-1 : Int32) ≤ p1 then
      Option.bind (f_X12_all y M) fun r9 =>
      bd2 (f_X12_lossOf y p0 r9 M) fun r12 M14 =>
      f_X12_taken_L32 y 2000 p0 p1 (0 : Int32) M14
    else
      f_X12_taken_J12 y M
def f_X12_there_J20 (y : Nat) (M : Mm) : Option (Int32 × Mm) :=
    bd2 (f_X12_bad y (-10 : Int32) M) fun r5 M7 =>
    some (r5, M7)
def f_X12_there_J27 (y : Nat) (x1 : Int32) (x2 : Int32) (M : Mm) : Option (Int32 × Mm) :=
    if x2 = (-1 : Int32) then
      Option.bind (f_X12_places y M) fun r11 =>
      Option.bind (f_X12_sumOf (y + 1) 913 ((6 : Int32) + ((24 : Int32) * x1)) r11 M) fun r14 =>
      some (r14, M)
    else
      ck (((6 : Int32) + ((24 : Int32) * x1)) + x2) 913 <|
      some ((M (y + 1) (((6 : Int32) + ((24 : Int32) * x1)) + x2).toNatClampNeg), M)
def f_X12_there (y : Nat) (p0 : Int32) (p1 : Int32) (M : Mm) : Option (Int32 × Mm) :=
  Option.bind (f_X12_isLane p0 M) fun r1 =>
  if r1 = 0 then
    f_X12_there_J20 y M
  else
    if p1 = (-1 : Int32) then
      f_X12_there_J27 y p0 p1 M
    else
      Option.bind (f_X12_isPlace y p1 M) fun r17 =>
      if r17 = 0 then
        f_X12_there_J20 y M
      else
        f_X12_there_J27 y p0 p1 M
def f_X12_told_J19 (y : Nat) (M : Mm) : Option (Int32 × Mm) :=
    bd2 (f_X12_bad y (-2 : Int32) M) fun r5 M7 =>
    some (r5, M7)
def f_X12_told (y : Nat) (p0 : Int32) (p1 : Int32) (M : Mm) : Option (Int32 × Mm) :=
  Option.bind (f_X12_isLane p0 M) fun r1 =>
  if r1 = 0 then
    f_X12_told_J19 y M
  else
    Option.bind (f_X12_in p1.toInt64 (0 : Int64) (9999 : Int64) M) fun r8 =>
    if r8 = 0 then
      f_X12_told_J19 y M
    else
      ck ((143 : Int32) + p0) 913 <|
      bnd (M (y + 1) ((143 : Int32) + p0).toNatClampNeg) fun z13 =>
      ck ((143 : Int32) + p0) 913 <|
      bnd (up2 M (y + 1) ((143 : Int32) + p0).toNatClampNeg p1) fun M15 =>
      some (z13, M15)
def f_X12_type_L41 (y : Nat) : Nat → Int64 → Int32 → Mm → Option (Int32 × Mm)
  | 0, _, _, _ => none
  | n + 1, x1, x4, M =>
      if x4 < 0 then
        some ((M y 18), M)
      else
        ck (M y 18) 250 <|
        bnd (up2 M (y + 11) (M y 18).toNatClampNeg (((jusrL x1 ((8 : Int32) * x4)) &&& (255 : Int64)).toInt32)) fun M9 =>
        bnd (up2 M9 y 18 ((M9 y 18) + (1 : Int32))) fun M10 =>
        bnd (x4 + (-1 : Int32)) fun z11 =>
        f_X12_type_L41 y n x1 z11 M10
def f_X12_type (y : Nat) (p0 : Int64) (p1 : Int32) (M : Mm) : Option (Int32 × Mm) :=
  Option.bind (f_X12_in p1.toInt64 (1 : Int64) (8 : Int64) M) fun r1 =>
  if r1 = 0 then
    bd2 (f_X12_bad y (-2 : Int32) M) fun r15 M17 =>
    some (r15, M17)
  else
    if ((M y 18) + p1) ≤ (250 : Int32) then
      bnd (p1 - (1 : Int32)) fun z6 =>
      f_X12_type_L41 y 2000 p0 z6 M
    else
      bd2 (f_X12_full y M) fun r12 M14 =>
      some (r12, M14)
def f_X12_undo_L77 (y : Nat) : Nat → Int32 → Int32 → Mm → Option (Int32 × Mm)
  | 0, _, _, _ => none
  | n + 1, x1, x2, M =>
      ck (x1 + (126 : Int32)) 913 <|
      if (M (y + 1) (x1 + (126 : Int32)).toNatClampNeg) ≤ x2 then
        ck (x1 + (124 : Int32)) 913 <|
        ck (148 : Int32) 913 <|
        bnd (up2 M (y + 1) (148 : Int32).toNatClampNeg (M (y + 1) (x1 + (124 : Int32)).toNatClampNeg)) fun M13 =>
        ck (x1 + (125 : Int32)) 913 <|
        ck (149 : Int32) 913 <|
        bnd (up2 M13 (y + 1) (149 : Int32).toNatClampNeg (M13 (y + 1) (x1 + (125 : Int32)).toNatClampNeg)) fun M16 =>
        some ((1 : Int32), M16)
      else
        ck ((x1 + (120 : Int32)) + x2) 913 <|
        ck (((127 : Int32) + ((4 : Int32) * x2)) + (2 : Int32)) 913 <|
        bnd (up2 M (y + 1) (((127 : Int32) + ((4 : Int32) * x2)) + (2 : Int32)).toNatClampNeg (M (y + 1) ((x1 + (120 : Int32)) + x2).toNatClampNeg)) fun M19 =>
        bnd (x2 + (1 : Int32)) fun z20 =>
        f_X12_undo_L77 y n x1 z20 M19
def f_X12_undo_L46 (y : Nat) : Nat → Int32 → Int32 → Mm → Option (Int32 × Mm)
  | 0, _, _, _ => none
  | n + 1, x1, x2, M =>
      if (120 : Int32) ≤ x2 then
        f_X12_undo_L77 y 2000 x1 (0 : Int32) M
      else
        ck (x1 + x2) 913 <|
        ck ((6 : Int32) + x2) 913 <|
        bnd (up2 M (y + 1) ((6 : Int32) + x2).toNatClampNeg (M (y + 1) (x1 + x2).toNatClampNeg)) fun M23 =>
        bnd (x2 + (1 : Int32)) fun z24 =>
        f_X12_undo_L46 y n x1 z24 M23
def f_X12_undo (y : Nat) (M : Mm) : Option (Int32 × Mm) :=
  ck (150 : Int32) 913 <|
  if (M (y + 1) (150 : Int32).toNatClampNeg) = 0 then
    bd2 (f_X12_no y M) fun r25 M27 =>
    some (r25, M27)
  else
    ck (150 : Int32) 913 <|
    ck (150 : Int32) 913 <|
    bnd (up2 M (y + 1) (150 : Int32).toNatClampNeg ((M (y + 1) (150 : Int32).toNatClampNeg) - (1 : Int32))) fun M5 =>
    ck (150 : Int32) 913 <|
    bnd ((151 : Int32) + ((127 : Int32) * (M5 (y + 1) (150 : Int32).toNatClampNeg))) fun z7 =>
    f_X12_undo_L46 y 2000 z7 (0 : Int32) M5
def f_X12_where_J35 (y : Nat) (M : Mm) : Option (Int32 × Mm) :=
    bd2 (f_X12_bad y (-10 : Int32) M) fun r5 M7 =>
    some (r5, M7)
def f_X12_where (y : Nat) (p0 : Int32) (p1 : Int32) (p2 : Int32) (p3 : Int32) (M : Mm) : Option (Int32 × Mm) :=
  Option.bind (f_X12_isLane p0 M) fun r1 =>
  if r1 = 0 then
    f_X12_where_J35 y M
  else
    Option.bind (f_X12_isPlace y p1 M) fun r8 =>
    if r8 = 0 then
      f_X12_where_J35 y M
    else
      Option.bind (f_X12_isLong p2 M) fun r12 =>
      if r12 = 0 then
        f_X12_where_J35 y M
      else
        Option.bind (f_X12_in p3.toInt64 (0 : Int64) (2 : Int64) M) fun r16 =>
        if r16 = 0 then
          f_X12_where_J35 y M
        else
          Option.bind (f_X12_goOneOn y p0 p1 p2 M) fun M22 =>
          if p3 = 0 then
            Option.bind (f_X12_isLane (M22 y 11) M22) fun r25 =>
            if r25 = 0 then
              some ((-1 : Int32), M22)
            else
              some ((M22 y 11), M22)
          else
            if p3 = (1 : Int32) then
              some ((M22 y 12), M22)
            else
              some ((M22 y 13), M22)
